import java.util.List;

/** Every town of two or three people and one or two matters, by every measure and law, with every agenda. */
public final class SmallTownsTest {
    private static final Check CHECK = new Check("SmallTownsTest");
    private static final String[] WISHES_OF_ONE = {"y", "n"}, WISHES_OF_TWO = {"yy", "yn", "ny", "nn"};
    private static final List<List<Integer>> AGENDAS_OF_ONE = List.of(List.of(0));
    private static final List<List<Integer>> AGENDAS_OF_TWO = List.of(List.of(0, 1), List.of(1, 0), List.of(0), List.of(1));

    public static void main(String[] args) {
        for (int people = 2; people <= 3; people++) {
            grow("m1", WISHES_OF_ONE, people, AGENDAS_OF_ONE);
            grow("m2", WISHES_OF_TWO, people, AGENDAS_OF_TWO);
        }
        CHECK.finish();
    }

    private static void grow(String text, String[] wishes, int more, List<List<Integer>> agendas) {
        if (more == 0) {
            for (List<Integer> agenda : agendas) {
                ask(text, agenda);
            }
            return;
        }
        for (String kind : new String[] {"h", "f", "c"}) {
            for (String wished : wishes) {
                grow(text + ";" + kind + wished, wishes, more - 1, agendas);
            }
        }
    }

    /** An object for each rule: none is used for more than 512 calls. */
    private static void ask(String text, List<Integer> agenda) {
        Model model = new Model(text);
        model.agenda = agenda;
        for (int rule = 0; rule < 12; rule++) {
            model.measure = rule / 3;
            model.law = rule % 3;
            WonBySeats x = Calls.rules(Calls.ofTown(text), model.measure, model.law);
            Calls.agenda(x, agenda.stream().mapToInt(m -> m).toArray());
            CHECK.at(text + " agenda " + agenda + " measure " + model.measure + " law " + model.law);
            askAll(new Beside(CHECK, x, model), model);
        }
    }

    private static void askAll(Beside beside, Model model) {
        beside.run();
        beside.ever();
        for (int set = 1; set < 1 << model.people; set++) {
            beside.sway(set);
        }
        beside.orders();
        beside.key();
        beside.lot();
        beside.fits(model.seats());
        if (model.measure == 0) {
            beside.safe();
        }
    }
}
