/** Sections 4 and 5, promises 13 to 18: the edges of factions, orders, keys, lots, fitting and safe rules. */
public final class SearchEdgeTest {
    private static final int UNKNOWN = -1, OUTSIDE = -2, STATE = -3, EVEN = -5, SHUT = -6, NONE = -9;
    private static final long LOST = Long.MIN_VALUE;
    private static final Check CHECK = new Check("SearchEdgeTest");

    public static void main(String[] args) {
        factionSizes();
        factionBits();
        whateverItsKind();
        lastMatterIsWon();
        fewestInAllVotes();
        onlyThoseWhoSit();
        turnOfEight();
        orderCounts();
        firstOrder();
        orderPlaces();
        keyOne();
        keyThings();
        leastTerms();
        lotByMeasureAlone();
        lotOverAShutHall();
        lotRefused();
        fitsSeats();
        fitsCells();
        fitsWithoutTown();
        safeRules();
        safeInAnyOrder();
        safeOfEachOnce();
        leaveTheRules();
        CHECK.finish();
    }

    private static void due(String call, long got, long want) {
        CHECK.due(call, got, want);
    }

    private static WonBySeats town(String text, int measure, int law) {
        return Calls.rules(Calls.ofTown(text), measure, law);
    }

    // ---- 4 factions

    private static void factionSizes() {
        CHECK.at("a FACTION (a set of 1 to 3 PEOPLE)");
        WonBySeats x = Calls.ofTown("m1;hn;hn;hn;hn;hn");
        int[][] want = {{0, OUTSIDE}, {1, NONE}, {3, NONE}, {7, 3}, {15, OUTSIDE}, {31, OUTSIDE},
            {16, NONE}, {20, NONE}, {28, 3}, {30, OUTSIDE}};
        for (int[] set : want) {
            due("sway(" + set[0] + ", 1)", x.sway(set[0], 1), set[1]);
            due("sway(" + set[0] + ", 0)", x.sway(set[0], 0), set[1] == OUTSIDE ? OUTSIDE : 0);
        }
    }

    private static void factionBits() {
        CHECK.at("or a bit of none");
        WonBySeats x = Calls.ofTown("m1;hn;hn");
        int[] wrong = {4, 5, 6, 256, 1 << 30, Integer.MIN_VALUE, Integer.MIN_VALUE + 1};
        for (int set : wrong) {
            due("sway(" + set + ", 1)", x.sway(set, 1), OUTSIDE);
        }
        due("both", x.sway(3, 1), 2);
        Calls.town(x, "m1" + ";hn".repeat(4) + ";hy".repeat(4));
        due("the eighth one", x.sway(128, 0), 1);
        due("even is not won", x.sway(128, 1), NONE);
        due("a ninth", x.sway(256, 0), OUTSIDE);
        due("a ninth with others", x.sway(257, 0), OUTSIDE);
        due("the last three", x.sway(224, 0), 1);
        CHECK.at("there is no TOWN: then each bit is of none");
        for (int set = 0; set < 4; set++) {
            due("sway(" + set + ", 0)", new WonBySeats().sway(set, 0), OUTSIDE);
        }
    }

    private static void whateverItsKind() {
        CHECK.at("each may say yes or no, whatever its kind; not what they WISH is counted");
        WonBySeats x = Calls.ofTown("m1;hy;fn;hn");
        due("as told, it follows", x.decided(0), 1);
        due("a follower that says what it wishes", x.sway(2, 0), 0);
        due("a follower that says what it would say", x.sway(2, 1), 1);
        x = Calls.ofTown("m1;hy;cy");
        due("as told, even", x.decided(0), EVEN);
        due("a contrary one that says what it wishes", x.sway(2, 1), 0);
        due("no: even", x.sway(2, 0), NONE);
        CHECK.at("all others as told");
        due("the contrary one says the other thing", x.sway(1, 0), NONE);
        due("whichever", x.sway(1, 1), NONE);
        x = Calls.ofTown("m1;hy;fy;fy;fy");
        due("all follow one", x.sway(1, 0), 1);
    }

    private static void lastMatterIsWon() {
        CHECK.at("that the last MATTER of the AGENDA is WON by yes (want 1), or by no (0)");
        WonBySeats x = Calls.ofTown("m1;hy;hn");
        int[][] want = {{1, 1, NONE}, {1, 0, 1}, {2, 1, 1}, {2, 0, NONE}, {3, 1, 1}, {3, 0, 1}};
        for (int[] row : want) {
            due("sway(" + row[0] + ", " + row[1] + ")", x.sway(row[0], row[1]), row[2]);
        }
        due("want 2", x.sway(1, 2), OUTSIDE);
        due("want -1", x.sway(1, -1), OUTSIDE);
        // the first of two is yes whatever 2 says; the last is no, whatever it says
        x = Calls.ofTown("m2;hyn;hyn;hyn;hyn");
        due("the last, not the first: no", x.sway(4, 0), 0);
        due("the last, not the first: yes", x.sway(4, 1), NONE);
        Calls.agenda(x, 1, 0);
        due("by the agenda's order: yes", x.sway(4, 1), 0);
        due("by the agenda's order: no", x.sway(4, 0), NONE);
        CHECK.at("one that is not put is not WON");
        x = Calls.ofTown("m2;hyy;hny");
        due("even, shut", x.decided(1), SHUT);
        due("yes if both agree first", x.sway(2, 1), 1);
        due("no", x.sway(2, 0), NONE);
        due("no by both", x.sway(3, 0), 3);
    }

    private static void fewestInAllVotes() {
        CHECK.at("the fewest sayings of the FACTION that are not what they WISH");
        WonBySeats x = Calls.ofTown("m1;hn;hn;hy");
        due("one of two is enough", x.sway(3, 1), 1);
        due("none is needed", x.sway(3, 0), 0);
        CHECK.at("(in all VOTES of the RUN)");
        // it has to make the first one not even, and then to say yes beside the other
        x = Calls.ofTown("m2;hyn;hyy;hnn;hnn");
        due("one in each", x.sway(1, 1), 2);
        due("no can't be", x.sway(1, 0), NONE);
        // 3 says no for once: won by 1, and the oldest decides alone
        x = Calls.ofTown("m2;hyy;hyn;hyn;hyn;hnn");
        due("as it is", x.decided(1), 0);
        due("by the first vote alone", x.sway(8, 1), 1);
        due("the youngest can't", x.sway(16, 1), NONE);
        // 2 makes the first one even: the second is not put, and all sit for the third
        x = Calls.ofTown("m3;hyyn;hyyy;hyyy;hnyy");
        due("as it is", x.decided(2), EVEN);
        due("by shutting the hall", x.sway(4, 1), 1);
        due("all other wishes", x.sway(4, 0), NONE);
    }

    private static void onlyThoseWhoSit() {
        CHECK.at("in each VOTE in which it SITS");
        WonBySeats x = Calls.ofTown("m2;hyn;hyy;hny");
        due("the oldest sits alone in the last", x.vote(1, 1), 1);
        due("the second one can't keep it", x.sway(2, 1), NONE);
        due("nor needs to", x.sway(2, 0), 0);
        due("the oldest can", x.sway(1, 1), 1);
        due("nothing was changed", x.ofOne(0, 1), 0);
    }

    private static void turnOfEight() {
        CHECK.at("eight PEOPLE in turn: all SIT by one turn, nobody by another");
        String text = "m4;hnnnn;hnnnn;hnyny;hynyy;hynny;hnyny;hynyy;hnyny";
        WonBySeats x = town(text, 2, 2);
        Model model = new Model(text);
        model.measure = 2;
        model.law = 2;
        for (int want = 0; want <= 1; want++) {
            for (int set : new int[] {1, 3, 7, 129}) {
                due("sway(" + set + ", " + want + ")", x.sway(set, want), model.sway(set, want));
            }
        }
        due("no, by one saying", x.sway(3, 0), 1);
        due("yes, by two", x.sway(3, 1), 2);
    }

    // ---- 4 orders, key

    private static void orderCounts() {
        CHECK.at("ORDERS of the AGENDA's MATTERS by which a MATTER is WON by yes: how many");
        int all = 1;
        for (int matters = 1; matters <= 6; matters++) {
            all *= matters;
            WonBySeats x = Calls.ofTown("m" + matters + (";h" + "y".repeat(matters)).repeat(2));
            due("all orders of " + matters, x.orders(matters - 1, -1), all);
            x = Calls.ofTown("m" + matters + (";h" + "n".repeat(matters)).repeat(2));
            due("no order of " + matters, x.orders(matters - 1, -1), 0);
        }
        WonBySeats x = Calls.ofTown("m2;hyy;hny");
        due("even is not won", x.orders(0, -1), 0);
        due("not put is not won", x.orders(1, -1), 1);
        due("then it is the first", x.orders(1, 0), 1);
        due("and the even one the last", x.orders(1, 1), 0);
    }

    private static void firstOrder() {
        CHECK.at("the first of them as a row");
        WonBySeats x = Calls.ofTown("m6;hyyyyyy;hyyyyyy");
        Calls.agenda(x, 5, 3, 1, 0);
        int[] row = {0, 1, 3, 5};
        for (int q = 0; q < 4; q++) {
            due("orders(3, " + q + ")", x.orders(3, q), row[q]);
        }
        CHECK.at("the first of them, not of all");
        x = Calls.ofTown("m3;hyny;hyyn;hnyn");
        int[] want = {1, 0, 2};
        for (int q = 0; q < 3; q++) {
            due("orders(1, " + q + ")", x.orders(1, q), want[q]);
        }
        CHECK.at("NONE: there is none");
        x = Calls.ofTown("m3;hnyy;hnyy");
        for (int q = 0; q < 3; q++) {
            due("orders(0, " + q + ")", x.orders(0, q), NONE);
        }
        due("but others have some", x.orders(1, 0), 0);
        due("none after some", x.orders(0, 0), NONE);
    }

    private static void orderPlaces() {
        CHECK.at("q is not -1 .. how many MATTERS the AGENDA has, less 1");
        WonBySeats x = Calls.ofTown("m3;hyyy;hyyy");
        for (int n = 3; n >= 1; n--) {
            Calls.agenda(x, java.util.Arrays.copyOf(new int[] {2, 0, 1}, n));
            due("q -2", x.orders(2, -2), UNKNOWN);
            due("the last q", x.orders(2, n - 1), 2);
            due("one beyond", x.orders(2, n), UNKNOWN);
        }
        CHECK.at("MATTER (not on the AGENDA: so, too)");
        due("0", x.orders(0, -1), UNKNOWN);
        due("1", x.orders(1, 0), UNKNOWN);
        due("3", x.orders(3, -1), UNKNOWN);
        due("-1", x.orders(-1, -1), UNKNOWN);
    }

    private static void dueKey(String text, int one, int matters) {
        WonBySeats x = Calls.ofTown(text);
        due("key(0) of " + text, x.key(0), one);
        due("key(1) of " + text, x.key(1), matters);
    }

    private static void keyOne() {
        CHECK.at("KEY: the ONE by whom; of several the least");
        dueKey("m1;hy;hy;hn", 0, 1);
        dueKey("m1;hn;hy;hy;hy", 1, 1);
        dueKey("m1;hy;cy;hy", 2, 1);
        CHECK.at("by nobody: all alike, in none");
        dueKey("m1;hy;hy;hy", 0, 0);
        dueKey("m2" + ";hyn".repeat(8), 0, 0);
    }

    private static void keyThings() {
        CHECK.at("another thing would be decided (yes, no, EVEN, SHUT)");
        dueKey("m2;hyy;hyy", 0, 2);
        dueKey("m1;hy;hn", 0, 1);
        dueKey("m6;hyyyyyy;hnnnnnn", 0, 6);
        CHECK.at("in the most MATTERS of the RUN");
        WonBySeats x = Calls.ofTown("m3;hyyy;hyyy");
        due("all three", x.key(1), 3);
        Calls.agenda(x, 2);
        due("of one", x.key(1), 1);
        due("all its wishes are as they were", x.ofOne(0, 0) + x.ofOne(0, 1) + x.ofOne(0, 2), 3);
        due("no town, but what is looked at first", new WonBySeats().key(2), OUTSIDE);
        due("no town", new WonBySeats().key(1), STATE);
    }

    // ---- 5 lots

    private static void dueLot(String text, int measure, int law, long upper, long lower) {
        WonBySeats x = town(text, measure, law);
        String name = " of " + text + " by measure " + measure + ", law " + law;
        due("upper" + name, x.lot(0), upper);
        due("lower" + name, x.lot(1), lower);
    }

    private static void leastTerms() {
        CHECK.at("upper and lower number (above 0) in least terms");
        dueLot("m1;hy;hy", 0, 0, 1, 1);
        dueLot("m1;hn;hn", 0, 0, 0, 1);
        dueLot("m1;hy;hn", 0, 0, 0, 1);
        // two of four: of six sets three are of those who say yes
        dueLot("m2;hyy;hyy;hyy;hnn", 0, 0, 1, 2);
        dueLot("m2;hyy;hyy;hyn;hnn", 0, 0, 1, 6);
        dueLot("m2;hyy;hyn;hnn", 0, 0, 1, 3);
        // one of five by lot, then it is put again and again: one of five each time
        dueLot("m2;hyy;hyy;hyy;hnn;hnn", 0, 0, 3, 5);
        dueLot("m6;hyyyyyy;hyyyyyy;hyyyyyy;hnnnnnn;hnnnnnn", 0, 0, 3, 5);
    }

    private static void lotByMeasureAlone() {
        CHECK.at("as many SEATS as MEASURE tells go to any of so many PEOPLE");
        int[][] want = {{1, 3}, {0, 1}, {1, 3}, {0, 1}};
        for (int rule = 0; rule < 12; rule++) {
            int[] share = want[rule / 3];
            dueLot("m2;hyy;hyn;hnn", rule / 3, rule % 3, share[0], share[1]);
        }
    }

    private static void lotOverAShutHall() {
        CHECK.at("by lot, too, the next MATTER is not put if the hall is SHUT, and behind it all SIT");
        dueLot("m2;hyy;hny", 0, 0, 0, 1);
        dueLot("m3;hyyy;hnyy", 0, 0, 1, 1);
        // two of three: both say yes in one set; two sets are even
        dueLot("m3;hyyy;hyyy;hnny", 1, 0, 1, 3);
        dueLot("m4;hyyyy;hyyyy;hnnyy", 1, 0, 1, 1);
        // one alone has nobody against it
        dueLot("m3;hyyy;hyyy;hnny", 2, 0, 0, 1);
    }

    private static void lotRefused() {
        CHECK.at("LOST: OUTSIDE: which; STATE: there is no TOWN");
        WonBySeats x = Calls.ofTown("m1;hy;hy");
        due("-1", x.lot(-1), LOST);
        due("2", x.lot(2), LOST);
        due("0", new WonBySeats().lot(0), LOST);
        due("1", new WonBySeats().lot(1), LOST);
    }

    // ---- 5 what it was

    private static void fitsSeats() {
        CHECK.at("SEATS behind each MATTER (0, if SHUT; PEOPLE behind one that was not put)");
        WonBySeats x = Calls.ofTown("m3;hyyn;hnyn;hyyn");
        due("by 1, then one alone", Calls.fits(x, 1, 1, 1), 7);
        due("by two, then two of one mind", Calls.fits(x, 2, 2, 2), 7 << 3);
        due("by twice 1, then all three, who are of one mind", Calls.fits(x, 2, 3, 3), 7 << 9);
        x = Calls.ofTown("m2;hyy;hny");
        due("even by all rules", Calls.fits(x, 0, 2), 4095);
        due("not 0 behind one that was not put", Calls.fits(x, 0, 0), 0);
        due("not more than people", Calls.fits(x, 0, 3), 0);
        due("a number below 0", Calls.fits(x, -1, 2), 0);
        x = Calls.ofTown("m1;hy;hy;hy");
        due("3 by all measures but 2", Calls.fits(x, 3), 3647);
        due("0 by measure 2", Calls.fits(x, 0), 448);
        due("6 is no more than people", Calls.fits(x, 6), 0);
        CHECK.at("bit 3 times MEASURE and LAW");
        x = Calls.ofTown("m2;hny;hyn;hyn");
        due("measures 1 and 3 by laws 0 and 2", Calls.fits(x, 2, 0), 1 << 3 | 1 << 5 | 1 << 9 | 1 << 11);
        due("measure 1 by law 1", Calls.fits(x, 2, 2), 1 << 4);
        due("measure 3 by law 1", Calls.fits(x, 2, 3), 1 << 10);
    }

    private static void fitsCells() {
        CHECK.at("by such cells, as many as the AGENDA has MATTERS");
        WonBySeats x = Calls.ofTown("m2;hyy;hny");
        Calls.row(x, 0, 9, 9, 0, 2);
        due("the last two", x.fits(0, 2, 2), 4095);
        due("others", x.fits(0, 2, 1), 0);
        due("one of them is not there", x.fits(0, 2, 3), Calls.INDEX);
        due("none is there", x.fits(0, 2, 4), Calls.INDEX);
        due("behind the end", x.fits(0, 2, 5), Calls.INDEX);
        Calls.row(x, 0, 0, 2, 77, -5);
        due("those behind are nothing to it", x.fits(0, 2, 0), 4095);
        Calls.agenda(x, 0);
        Calls.row(x, 0, 7, 0);
        due("one cell for one matter", x.fits(0, 2, 1), 4095);
        CHECK.at("cut to its SORT");
        x.sheet(1, 0, 1);
        x.put(1, 0, 256);
        due("256 as a byte is 0", x.fits(1, 0, 0), 4095);
        x.sheet(1, 1, 1);
        x.put(1, 0, 256);
        due("256 as a short is not", x.fits(1, 1, 0), 0);
        x.put(1, 0, 65536);
        due("65536 as a short is 0", x.fits(1, 1, 0), 4095);
        Calls.row(x, 1, 65536);
        due("65536 as an int is not", x.fits(1, 2, 0), 0);
    }

    private static void fitsWithoutTown() {
        CHECK.at("INDEX (without a TOWN: of no cells)");
        WonBySeats x = new WonBySeats();
        x.sheet(0, 0, 3);
        x.sheet(1, 1, 0);
        due("-1", x.fits(0, 0, -1), Calls.INDEX);
        due("0", x.fits(0, 0, 0), STATE);
        due("3", x.fits(0, 0, 3), STATE);
        due("4", x.fits(0, 0, 4), Calls.INDEX);
        due("0 of none", x.fits(1, 1, 0), STATE);
        due("1 of none", x.fits(1, 1, 1), Calls.INDEX);
    }

    private static void safeRules() {
        CHECK.at("SAFE: those by which the hall is never SHUT");
        WonBySeats x = Calls.ofTown("m1;hy;hy;hn");
        due("never by one matter", x.safe(), 4095);
        Calls.town(x, "m1;hy;hy;hy");
        due("nobody said the other thing", x.safe(), 3647);
        Calls.town(x, "m1;hy;hn");
        due("even, behind the last one", x.safe(), 0);
        Calls.town(x, "m6" + ";hyynnyn".repeat(8));
        due("six matters of one mind", x.safe(), 3647);
        due("no town", new WonBySeats().safe(), STATE);
    }

    private static void safeInAnyOrder() {
        CHECK.at("in whatever order the AGENDA's MATTERS are put");
        WonBySeats x = town("m3;hyyy;hyny;hnny", 1, 0);
        Calls.agenda(x, 1, 0);
        due("not shut as they stand", x.sits(), 3);
        due("but the other way round", x.safe(), 7);
        Calls.agenda(x, 0, 1);
        due("shut as they stand", x.sits(), SHUT);
        due("the same", x.safe(), 7);
        CHECK.at("the AGENDA's MATTERS alone");
        Calls.agenda(x, 0);
        due("one of them", x.safe(), 4095);
        due("the agenda is as it was", x.vote(0, 0), 0);
        due("the rules are as they were", 10 * x.many(2) + x.many(3), 10);
    }

    private static void safeOfEachOnce() {
        CHECK.at("AN AGENDA: each but once");
        WonBySeats x = Calls.ofTown("m2;hnn;hny;hnn");
        due("the second one twice would be even", x.safe(), 3647);
        Calls.town(x, "m3;hnnn;hnyn;hnnn");
        due("nor one of three", x.safe(), 3647);
    }

    /** fits() and safe() try all rules; what is asked right behind them goes by the town's own. */
    private static void leaveTheRules() {
        CHECK.at("right behind fits() and safe()");
        for (int safe = 0; safe <= 1; safe++) {
            due("often", behind(safe, "m1;hn;hy;hy").often(0), 0);
            due("ever", behind(safe, "m1;hn;hy;hy").ever(1), 1);
            due("sway", behind(safe, "m2;hyn;hyy;hny").sway(2, 0), 0);
            due("orders", behind(safe, "m3;hyny;hyyn;hnyn").orders(1, -1), 2);
            due("lot", behind(safe, "m2;hyy;hyn;hnn").lot(1), 3);
            due("key", behind(safe, "m2;hyn;hyy;hny").key(0), 0);
            due("vote", behind(safe, "m1;hy;hy;hn").vote(0, 4), 1);
            due("sits", behind(safe, "m1;hy;hy;hn").sits(), 1);
            due("decided", behind(safe, "m2;hyy;hyn;hnn").decided(1), 1);
        }
    }

    private static WonBySeats behind(int safe, String text) {
        WonBySeats x = Calls.ofTown(text);
        if (safe == 1) {
            x.safe();
        } else {
            Calls.fits(x, 0, 0, 0, 0, 0, 0);
        }
        return x;
    }
}
