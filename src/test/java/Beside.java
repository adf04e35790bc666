import java.util.List;

/** Asks an object what there is to ask about its town, beside the plain model of the same town. */
final class Beside {
    private final Check check;
    private final WonBySeats x;
    private final Model model;

    Beside(Check check, WonBySeats x, Model model) {
        this.check = check;
        this.x = x;
        this.model = model;
    }

    void run() {
        List<Model.Vote> votes = model.run();
        for (int q = 0; q < votes.size(); q++) {
            Model.Vote v = votes.get(q);
            check.due("vote(" + q + ", 0)", x.vote(q, 0), v.matter);
            check.due("vote(" + q + ", 1)", x.vote(q, 1), v.sits);
            check.due("vote(" + q + ", 2)", x.vote(q, 2), v.yes);
            check.due("vote(" + q + ", 3)", x.vote(q, 3), v.decided);
            check.due("vote(" + q + ", 4)", x.vote(q, 4), v.seats);
        }
        for (int m = 0; m < model.matters; m++) {
            check.due("decided(" + m + ")", x.decided(m), model.decided(m));
        }
        check.due("sits()", x.sits(), model.sits());
    }

    void ever() {
        int[] ever = model.ever();
        check.due("ever(0)", x.ever(0), ever[0]);
        check.due("ever(1)", x.ever(1), ever[1]);
        for (int m = 0; m < model.matters; m++) {
            check.due("often(" + m + ")", x.often(m), ever[2 + m]);
        }
    }

    void sway(int set) {
        check.due("sway(" + set + ", 0)", x.sway(set, 0), model.sway(set, 0));
        check.due("sway(" + set + ", 1)", x.sway(set, 1), model.sway(set, 1));
    }

    void orders() {
        for (int m : model.agenda) {
            List<List<Integer>> orders = model.orders(m);
            check.due("orders(" + m + ", -1)", x.orders(m, -1), orders.size());
            for (int q = 0; q < model.agenda.size(); q++) {
                int want = orders.isEmpty() ? Model.NONE : orders.get(0).get(q);
                check.due("orders(" + m + ", " + q + ")", x.orders(m, q), want);
            }
        }
    }

    void key() {
        int[] key = model.key();
        check.due("key(0)", x.key(0), key[0]);
        check.due("key(1)", x.key(1), key[1]);
    }

    void lot() {
        long[] lot = model.lot();
        check.due("lot(0)", x.lot(0), lot[0]);
        check.due("lot(1)", x.lot(1), lot[1]);
    }

    void fits(int... seats) {
        check.due("fits of " + java.util.Arrays.toString(seats), Calls.fits(x, seats), model.fits(seats));
    }

    void safe() {
        check.due("safe()", x.safe(), model.safe());
    }

    void rulesAreAsTheyWere() {
        check.due("measure is as it was", x.many(2), model.measure);
        check.due("law is as it was", x.many(3), model.law);
    }
}
