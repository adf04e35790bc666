import java.util.ArrayList;
import java.util.Collections;
import java.util.List;
import java.util.Random;

/** Many towns, each asked everything, beside the plain model. */
public final class ModelTest {
    private static final Check CHECK = new Check("ModelTest");

    public static void main(String[] args) {
        Random random = new Random(17);
        for (int round = 0; round < 600; round++) {
            askAll(random, round);
        }
        CHECK.finish();
    }

    private static String someTown(Random random) {
        int matters = 1 + random.nextInt(6);
        int people = 2 + random.nextInt(7);
        String kinds = random.nextInt(3) == 0 ? "h" : random.nextBoolean() ? "hfc" : "hhhfc";
        int yesOfTen = 1 + random.nextInt(9);
        StringBuilder text = new StringBuilder("m").append(matters);
        for (int x = 0; x < people; x++) {
            text.append(';').append(kinds.charAt(random.nextInt(kinds.length())));
            for (int m = 0; m < matters; m++) {
                text.append(random.nextInt(10) < yesOfTen ? 'y' : 'n');
            }
        }
        return text.toString();
    }

    private static void askAll(Random random, int round) {
        String text = someTown(random);
        Model model = new Model(text);
        WonBySeats x = Calls.ofTown(text);
        if (round % 3 != 0) {
            List<Integer> row = new ArrayList<>(model.agenda);
            Collections.shuffle(row, random);
            model.agenda = row.subList(0, 1 + random.nextInt(row.size()));
            Calls.agenda(x, model.agenda.stream().mapToInt(m -> m).toArray());
        }
        for (int change = random.nextInt(4); change > 0; change--) {
            int one = random.nextInt(model.people);
            int matter = random.nextInt(model.matters);
            boolean yes = random.nextBoolean();
            CHECK.due("wish", x.wish(one, matter, yes), model.wish[one][matter] == yes ? 0 : 1);
            model.wish[one][matter] = yes;
        }
        model.measure = random.nextInt(4);
        model.law = random.nextInt(3);
        Calls.rules(x, model.measure, model.law);
        CHECK.at(text + " agenda " + model.agenda + " measure " + model.measure + " law " + model.law);
        Beside beside = new Beside(CHECK, x, model);
        beside.run();
        beside.ever();
        askFactions(beside, model, random);
        beside.orders();
        beside.key();
        beside.lot();
        beside.safe();
        int[] seats = model.seats();
        beside.fits(seats);
        seats[random.nextInt(seats.length)] = random.nextInt(model.people + 1);
        beside.fits(seats);
        beside.rulesAreAsTheyWere();
    }

    private static void askFactions(Beside beside, Model model, Random random) {
        for (int set = 0; set < 1 << model.people; set++) {
            int members = Integer.bitCount(set);
            // the model tries all sayings: three of eight with six matters are asked now and then only
            boolean dear = members == 3 && model.agenda.size() > 3;
            if (members >= 1 && members <= 3 && random.nextInt(dear ? 100 : 8) == 0) {
                beside.sway(set);
            }
        }
    }
}
