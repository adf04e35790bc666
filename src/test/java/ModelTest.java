import java.util.ArrayList;
import java.util.Collections;
import java.util.List;
import java.util.Random;

/** Many towns, each asked everything, beside the plain model. */
public final class ModelTest {
    private static final Check CHECK = new Check("ModelTest");

    public static void main(String[] args) {
        Random random = new Random(17);
        for (int round = 0; round < 600; round++) {
            askAll(random, round);
        }
        CHECK.finish();
    }

    private static String someTown(Random random) {
        int matters = 1 + random.nextInt(6);
        int people = 2 + random.nextInt(7);
        String kinds = random.nextInt(3) == 0 ? "h" : random.nextBoolean() ? "hfc" : "hhhfc";
        int yesOfTen = 1 + random.nextInt(9);
        StringBuilder text = new StringBuilder("m").append(matters);
        for (int x = 0; x < people; x++) {
            text.append(';').append(kinds.charAt(random.nextInt(kinds.length())));
            for (int m = 0; m < matters; m++) {
                text.append(random.nextInt(10) < yesOfTen ? 'y' : 'n');
            }
        }
        return text.toString();
    }

    private static void askAll(Random random, int round) {
        String text = someTown(random);
        Model model = new Model(text);
        WonBySeats x = Calls.ofTown(text);
        if (round % 3 != 0) {
            List<Integer> row = new ArrayList<>(model.agenda);
            Collections.shuffle(row, random);
            model.agenda = row.subList(0, 1 + random.nextInt(row.size()));
            Calls.agenda(x, model.agenda.stream().mapToInt(m -> m).toArray());
        }
        for (int change = random.nextInt(4); change > 0; change--) {
            int one = random.nextInt(model.people);
            int matter = random.nextInt(model.matters);
            boolean yes = random.nextBoolean();
            CHECK.due("wish", x.wish(one, matter, yes), model.wish[one][matter] == yes ? 0 : 1);
            model.wish[one][matter] = yes;
        }
        model.measure = random.nextInt(4);
        model.law = random.nextInt(3);
        Calls.rules(x, model.measure, model.law);
        CHECK.at(text + " agenda " + model.agenda + " measure " + model.measure + " law " + model.law);
        askRun(x, model);
        askEver(x, model);
        askFactions(x, model, random);
        askOrdersAndKey(x, model);
        askLotsAndRules(x, model, random);
    }

    private static void askRun(WonBySeats x, Model model) {
        List<Model.Vote> votes = model.run();
        for (int q = 0; q < votes.size(); q++) {
            Model.Vote v = votes.get(q);
            CHECK.due("vote(" + q + ", 0)", x.vote(q, 0), v.matter);
            CHECK.due("vote(" + q + ", 1)", x.vote(q, 1), v.sits);
            CHECK.due("vote(" + q + ", 2)", x.vote(q, 2), v.yes);
            CHECK.due("vote(" + q + ", 3)", x.vote(q, 3), v.decided);
            CHECK.due("vote(" + q + ", 4)", x.vote(q, 4), v.seats);
        }
        for (int m = 0; m < model.matters; m++) {
            CHECK.due("decided(" + m + ")", x.decided(m), model.decided(m));
        }
        CHECK.due("sits()", x.sits(), model.sits());
    }

    private static void askEver(WonBySeats x, Model model) {
        int[] ever = model.ever();
        CHECK.due("ever(0)", x.ever(0), ever[0]);
        CHECK.due("ever(1)", x.ever(1), ever[1]);
        for (int m = 0; m < model.matters; m++) {
            CHECK.due("often(" + m + ")", x.often(m), ever[2 + m]);
        }
    }

    private static void askFactions(WonBySeats x, Model model, Random random) {
        for (int set = 0; set < 1 << model.people; set++) {
            int members = Integer.bitCount(set);
            // the model tries all sayings: three of eight with six matters are asked now and then only
            boolean dear = members == 3 && model.agenda.size() > 3;
            if (members >= 1 && members <= 3 && random.nextInt(dear ? 100 : 8) == 0) {
                CHECK.due("sway(" + set + ", 0)", x.sway(set, 0), model.sway(set, 0));
                CHECK.due("sway(" + set + ", 1)", x.sway(set, 1), model.sway(set, 1));
            }
        }
    }

    private static void askOrdersAndKey(WonBySeats x, Model model) {
        for (int m : model.agenda) {
            List<List<Integer>> orders = model.orders(m);
            CHECK.due("orders(" + m + ", -1)", x.orders(m, -1), orders.size());
            for (int q = 0; q < model.agenda.size(); q++) {
                int want = orders.isEmpty() ? Model.NONE : orders.get(0).get(q);
                CHECK.due("orders(" + m + ", " + q + ")", x.orders(m, q), want);
            }
        }
        int[] key = model.key();
        CHECK.due("key(0)", x.key(0), key[0]);
        CHECK.due("key(1)", x.key(1), key[1]);
    }

    private static void askLotsAndRules(WonBySeats x, Model model, Random random) {
        long[] lot = model.lot();
        CHECK.due("lot(0)", x.lot(0), lot[0]);
        CHECK.due("lot(1)", x.lot(1), lot[1]);
        CHECK.due("safe()", x.safe(), model.safe());
        int[] seats = model.seats();
        CHECK.due("fits of its own seats", Calls.fits(x, seats), model.fits(seats));
        seats[random.nextInt(seats.length)] = random.nextInt(model.people + 1);
        CHECK.due("fits of other seats", Calls.fits(x, seats), model.fits(seats));
        CHECK.due("measure is as it was", x.many(2), model.measure);
        CHECK.due("law is as it was", x.many(3), model.law);
    }
}
