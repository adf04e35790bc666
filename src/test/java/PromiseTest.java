/** Each promise: ordinary inputs, the edges that the document names, wrong inputs in the order told. */
public final class PromiseTest {
    private static final int UNKNOWN = -1, OUTSIDE = -2, STATE = -3, EVEN = -5, SHUT = -6, NONE = -9;
    private static final int NULL = Calls.NULL, CAST = Calls.CAST, INDEX = Calls.INDEX, SIZE = Calls.SIZE;
    private static final int MIN = Integer.MIN_VALUE, MAX = Integer.MAX_VALUE;
    private static final long LOST = Long.MIN_VALUE;
    /** Matter 0: 0, 1, 2 (a follower) say yes, 3 (a contrary one) no. Matter 1: n y n y. */
    private static final String FOUR = "m2;hyn;hyy;fnn;cny";
    /** Matter 0: 0, 1, 4 say yes. Matter 1: 2, 3, 4. */
    private static final String FIVE = "m2;hyn;hyn;hny;hny;hyy";
    private static final Check CHECK = new Check("PromiseTest");

    public static void main(String[] args) {
        newObject();
        townTexts();
        townRefusals();
        townAnew();
        ofOneAndWish();
        measureAndLaw();
        agenda();
        votes();
        measuresAndLawsAtWork();
        shutHall();
        ever();
        sway();
        orders();
        key();
        lot();
        fits();
        safe();
        sheetAndLose();
        putAndCell();
        copy();
        tellAndSwear();
        asKind();
        fault();
        many();
        CHECK.finish();
    }

    private static void due(String call, long got, long want) {
        CHECK.due(call, got, want);
    }

    private static void newObject() {
        CHECK.at("1 new");
        WonBySeats x = new WonBySeats();
        for (int what = 0; what < 5; what++) {
            due("many", x.many(what), 0);
        }
        for (int k = 0; k < 4; k++) {
            due("lose", x.lose(k), 0);
            due("put", x.put(k, 0, 1), NULL);
        }
        due("trace", x.trace(), 0);
        due("fault of a new one", new WonBySeats().fault(), 0);
        WonBySeats other = Calls.ofTown(FOUR);
        due("two objects have nothing in common", x.many(0), 0);
        due("the other one has", other.many(0), 4);
    }

    private static void dueText(String text, int want) {
        WonBySeats x = new WonBySeats();
        due("town by " + text, Calls.town(x, text), want);
        due("people by " + text, x.many(0), Math.max(want, 0));
    }

    private static void townTexts() {
        CHECK.at("2 town, texts");
        dueText("m1;hy;hn", 2);
        dueText(FOUR, 4);
        dueText("m6;hyyyyyy;fnnnnnn;cynynyn", 3);
        String eight = "m1;hy;hy;hy;hy;hy;hy;hy;hy";
        dueText(eight, 8);
        dueText("m6;hyyyyyy;hyyyyyy;hyyyyyy;hyyyyyy;hyyyyyy;hyyyyyy;hyyyyyy;hyyyyyy", 8);
        dueText(eight + ";", -126);
        dueText(eight + ";hy", -126);
        dueText(eight + "y", -126);
        dueText("", -100);
        dueText("m", -101);
        dueText("m1", -102);
        dueText("m1;", -103);
        dueText("m1;h", -104);
        dueText("m1;hy", -105);
        dueText("m1;hy;", -106);
        dueText("m1;hy;h", -107);
        dueText("m1;hy;hn;", -109);
        dueText("m2;hyn;hy", -109);
        dueText("M1;hy;hn", -100);
        dueText("m0;h;h", -101);
        dueText("m7;hyyyyyyy;hyyyyyyy", -101);
        dueText("m/;hy;hy", -101);
        dueText("m1hy;hy", -102);
        dueText("m1;xy;hy", -103);
        dueText("m1;hh;hy", -104);
        dueText("m1;hyy;hy", -105);
        dueText("m2;hy;hyy", -105);
        dueText("m1;hy;hny", -108);
        dueText("m1;hy;hn;zz", -109);
    }

    private static void townRefusals() {
        CHECK.at("2 town, refusals");
        WonBySeats x = new WonBySeats();
        due("sheet -1", x.town(-1, 9, 0, -1), UNKNOWN);
        due("sheet 4", x.town(4, 0, 0, 0), UNKNOWN);
        due("sort 3 of nothing", x.town(0, 3, 0, -1), OUTSIDE);
        due("sort -1", x.town(0, -1, 0, 0), OUTSIDE);
        due("nothing", x.town(0, 1, -1, -1), NULL);
        due("fault", x.fault(), 1);
        x.sheet(0, 0, 8);
        due("bytes as shorts", x.town(0, 1, -1, -1), CAST);
        due("bytes as ints", x.town(0, 2, 0, 8), CAST);
        due("n below 0", x.town(0, 0, -1, -1), SIZE);
        due("n least", x.town(0, 0, 0, MIN), SIZE);
        due("i below 0", x.town(0, 0, -1, 1), INDEX);
        due("i behind the end, no cells", x.town(0, 0, 9, 0), INDEX);
        due("i below 0, no cells", x.town(0, 0, -1, 0), INDEX);
        due("one too many", x.town(0, 0, 1, 8), INDEX);
        due("a sum that wraps", x.town(0, 0, MAX, MAX), INDEX);
        due("a sum that wraps, i inside", x.town(0, 0, 8, MAX), INDEX);
        due("no cells at the end", x.town(0, 0, 8, 0), -100);
        due("fault of a text is none of the machine's", x.fault(), 0);
        due("zeros", x.town(0, 0, 0, 8), -100);
        due("no people", x.many(0), 0);
    }

    private static void townAnew() {
        CHECK.at("2 town, anew");
        WonBySeats x = Calls.rules(Calls.ofTown(FOUR), 2, 1);
        Calls.agenda(x, 1);
        x.tell(0);
        due("a wrong text", Calls.town(x, "m1;hy"), -105);
        due("changes no people", x.many(0), 4);
        due("changes no measure", x.many(2), 2);
        due("changes no agenda", x.many(4), 1);
        due("another town", Calls.town(x, "m3;hyyy;cnnn;fyyy"), 3);
        due("matters", x.many(1), 3);
        due("measure", x.many(2), 0);
        due("law", x.many(3), 0);
        due("agenda", x.many(4), 3);
        for (int q = 0; q < 3; q++) {
            due("agenda by numbers", x.vote(q, 0), q);
            due("old wishes are gone", x.ofOne(1, q), 0);
        }
        due("old kinds are gone", x.ofOne(1, -1), 2);
        due("trace goes on", x.trace(), 1);
        x.sheet(1, 1, 20);
        String text = "m1;hy;fn";
        for (int i = 0; i < text.length(); i++) {
            x.put(1, 5 + i, text.charAt(i));
        }
        due("from the middle of shorts", x.town(1, 1, 5, 8), 2);
        Calls.row(x, 0, 109 + 256, 49, 59, 104, 121, 59, 104, 110);
        due("ints are not cut", x.town(0, 2, 0, 8), -100);
        x.sheet(0, 0, 8);
        for (int i = 0; i < 8; i++) {
            x.put(0, i, text.charAt(i) + 256);
        }
        due("bytes are", x.town(0, 0, 0, 8), 2);
    }

    private static void ofOneAndWish() {
        CHECK.at("3 ofOne, 4 wish");
        WonBySeats x = new WonBySeats();
        due("no town", x.ofOne(0, -1), UNKNOWN);
        due("no town", x.wish(0, 0, true), UNKNOWN);
        Calls.town(x, FOUR);
        int[] kinds = {0, 0, 1, 2};
        int[] first = {1, 1, 0, 0};
        int[] second = {0, 1, 0, 1};
        for (int one = 0; one < 4; one++) {
            due("kind", x.ofOne(one, -1), kinds[one]);
            due("wish in 0", x.ofOne(one, 0), first[one]);
            due("wish in 1", x.ofOne(one, 1), second[one]);
        }
        due("one -1", x.ofOne(-1, 9), UNKNOWN);
        due("one 4", x.ofOne(4, -2), UNKNOWN);
        due("what 2", x.ofOne(0, 2), OUTSIDE);
        due("what -2", x.ofOne(0, -2), OUTSIDE);
        due("as it was", x.wish(0, 0, true), 0);
        due("turned", x.wish(0, 0, false), 1);
        due("again", x.wish(0, 0, false), 0);
        due("it is no", x.ofOne(0, 0), 0);
        due("another's is not", x.ofOne(1, 0), 1);
        due("to yes", x.wish(3, 0, true), 1);
        due("it is yes", x.ofOne(3, 0), 1);
        due("one 4", x.wish(4, 0, true), UNKNOWN);
        due("one -1", x.wish(-1, 0, true), UNKNOWN);
        due("matter 2", x.wish(0, 2, true), UNKNOWN);
        due("matter -1", x.wish(0, -1, true), UNKNOWN);
    }

    private static void measureAndLaw() {
        CHECK.at("5 measure, 6 law");
        WonBySeats x = new WonBySeats();
        due("measure 4, no town", x.measure(4), OUTSIDE);
        due("measure -1, no town", x.measure(-1), OUTSIDE);
        due("measure 3, no town", x.measure(3), STATE);
        due("law 3, no town", x.law(3), OUTSIDE);
        due("law -1, no town", x.law(-1), OUTSIDE);
        due("law 2, no town", x.law(2), STATE);
        Calls.town(x, FOUR);
        due("measure 3", x.measure(3), 0);
        due("measure 1", x.measure(1), 3);
        due("measure 4", x.measure(4), OUTSIDE);
        due("measure", x.many(2), 1);
        due("law 2", x.law(2), 0);
        due("law 1", x.law(1), 2);
        due("law 3", x.law(3), OUTSIDE);
        due("law", x.many(3), 1);
    }

    private static void agenda() {
        CHECK.at("7 agenda");
        WonBySeats x = new WonBySeats();
        due("sheet", x.agenda(4, 3, 0, 1), UNKNOWN);
        due("sort", x.agenda(0, 3, 0, 1), OUTSIDE);
        due("nothing", x.agenda(0, 2, -1, -1), NULL);
        Calls.row(x, 0, 0, 1, 2, 0, 3, -1, 5);
        due("cast", x.agenda(0, 0, -1, -1), CAST);
        due("size", x.agenda(0, 2, -1, -1), SIZE);
        due("index", x.agenda(0, 2, 5, 3), INDEX);
        due("index of no cells", x.agenda(0, 2, 8, 0), INDEX);
        due("no town", x.agenda(0, 2, 0, 0), STATE);
        Calls.town(x, "m3;hyyy;hyyy");
        due("n 0", x.agenda(0, 2, 0, 0), OUTSIDE);
        due("n 7", x.agenda(0, 2, 0, 7), OUTSIDE);
        due("matter 3", x.agenda(0, 2, 0, 5), UNKNOWN);
        due("matter -1", x.agenda(0, 2, 5, 1), UNKNOWN);
        due("unknown behind twice", x.agenda(0, 2, 0, 6), UNKNOWN);
        due("twice", x.agenda(0, 2, 0, 4), OUTSIDE);
        due("as it was", x.many(4), 3);
        due("two", x.agenda(0, 2, 2, 2), 2);
        due("many", x.many(4), 2);
        due("the first", x.vote(0, 0), 2);
        due("the second", x.vote(1, 0), 0);
        due("no third", x.vote(2, 0), UNKNOWN);
        Calls.row(x, 0, 1, 1, 1);
        due("what is put later is nothing to it", x.vote(0, 0), 2);
    }

    private static void votes() {
        CHECK.at("8 vote, 9 decided, 10 sits");
        WonBySeats x = new WonBySeats();
        due("no town", x.vote(0, 9), UNKNOWN);
        due("no town", x.decided(0), UNKNOWN);
        due("no town", x.sits(), STATE);
        Calls.town(x, FOUR);
        int[][] want = {{0, 15, 7, 1, 2}, {1, 3, 2, EVEN, 0}};
        for (int q = 0; q < 2; q++) {
            for (int what = 0; what < 5; what++) {
                due("vote(" + q + ", " + what + ")", x.vote(q, what), want[q][what]);
            }
        }
        due("vote -1", x.vote(-1, 0), UNKNOWN);
        due("vote 2", x.vote(2, 9), UNKNOWN);
        due("what 5", x.vote(0, 5), OUTSIDE);
        due("what -1", x.vote(0, -1), OUTSIDE);
        due("decided", x.decided(0), 1);
        due("even", x.decided(1), EVEN);
        due("matter 2", x.decided(2), UNKNOWN);
        due("matter -1", x.decided(-1), UNKNOWN);
        due("sits", x.sits(), SHUT);
        Calls.agenda(x, 0);
        due("not on the agenda", x.decided(1), NONE);
        due("sits", x.sits(), 3);
        x.wish(0, 0, false);
        due("a follower with as many ahead says what it wishes, a contrary one the other", x.vote(0, 2), 10);
        due("and it is even", x.decided(0), EVEN);
        Calls.town(x, "m1;cy;cy;fn;fn;cn");
        due("y, other: n, even: n, less: n, less: y", x.vote(0, 2), 17);
        due("no", x.decided(0), 0);
        Calls.town(x, "m1;fn;fy;cn");
        due("n, n, y", x.vote(0, 2), 4);
    }

    private static void measuresAndLawsAtWork() {
        CHECK.at("2 measures, laws");
        WonBySeats x = Calls.ofTown(FIVE);
        int[][] want = {
            {0, 0, 1, 1}, {0, 1, 1, 1}, {0, 2, 1, 2},
            {1, 0, 7, 3}, {1, 1, 19, 3}, {1, 2, 7, 24},
            {2, 0, 3, SHUT}, {2, 1, 3, SHUT}, {2, 2, 3, SHUT},
            {3, 0, 3, 15}, {3, 1, 3, 15}, {3, 2, 3, 29}};
        for (int[] row : want) {
            Calls.rules(x, row[0], row[1]);
            CHECK.at("2 measure " + row[0] + ", law " + row[1]);
            due("who sits for the second matter", x.vote(1, 1), row[2]);
            due("who sits behind", x.sits(), row[3]);
        }
        CHECK.at("2 measures, laws");
        due("won by no", x.decided(1), 0);
        Calls.town(x, "m1;hy;hy;hn;hn;hy;hy;hy");
        Calls.rules(x, 3, 1);
        due("winners, then losers", x.sits(), 119);
        Calls.rules(x, 3, 0);
        due("the oldest", x.sits(), 63);
        Calls.town(x, "m2;hny;hyy;hyn;hyn;hnn");
        Calls.rules(x, 0, 1);
        due("one winner", x.vote(1, 1), 2);
        Calls.rules(x, 3, 1);
        due("two winners", x.vote(1, 1), 6);
        Calls.town(x, "m2;hnn;hyn;hyy;hyy;hyn");
        Calls.rules(x, 0, 1);
        due("three winners", x.vote(1, 1), 14);
        Calls.rules(x, 3, 1);
        due("no more than people", x.vote(0, 4), 5);
        Calls.agenda(x, 0, 1);
        Calls.rules(x, 0, 1);
        due("of them two say yes", x.vote(1, 2), 12);
        due("the older of both", x.sits(), 4);
        Calls.rules(x, 1, 2);
        due("four by turn", x.vote(1, 1), 15);
        due("even", x.decided(1), EVEN);
    }

    private static void shutHall() {
        CHECK.at("2 shut");
        WonBySeats x = Calls.ofTown(FOUR);
        Calls.agenda(x, 1, 0);
        due("even", x.vote(0, 3), EVEN);
        due("no seats", x.vote(0, 4), 0);
        int[] want = {0, 0, 0, SHUT, 4};
        for (int what = 0; what < 5; what++) {
            due("vote(1, " + what + ")", x.vote(1, what), want[what]);
        }
        due("decided", x.decided(0), SHUT);
        due("all sit", x.sits(), 15);
        Calls.town(x, "m3;hyyy;hyyy;hyny");
        Calls.rules(x, 2, 0);
        due("all say yes", x.vote(0, 3), 1);
        due("nobody the other thing", x.vote(0, 4), 0);
        due("not put", x.vote(1, 3), SHUT);
        due("all sit again", x.vote(2, 1), 7);
        due("and shut", x.sits(), SHUT);
        // by law 2 the turn goes on behind a shut hall from where it was
        Calls.town(x, "m4;hyyyy;hyyny;hynyn");
        Calls.rules(x, 0, 2);
        Calls.agenda(x, 1, 0);
        due("one seat, the first", x.vote(1, 1), 1);
        due("then the second", x.sits(), 2);
        Calls.town(x, "m4;hyyyy;hyyny;hnnyn;hnynn");
        Calls.rules(x, 3, 2);
        Calls.agenda(x, 1, 0, 2, 3);
        due("four seats, the turn is back", x.vote(1, 1), 15);
        due("even", x.vote(1, 3), EVEN);
        due("all sit", x.vote(3, 1), 15);
    }

    private static void ever() {
        CHECK.at("11 ever, 12 often");
        WonBySeats x = new WonBySeats();
        due("what 2, no town", x.ever(2), OUTSIDE);
        due("what -1, no town", x.ever(-1), OUTSIDE);
        due("no town", x.ever(1), STATE);
        due("no town", x.often(0), UNKNOWN);
        Calls.town(x, "m1;hy;hy;hn");
        dueEver(x, 0, 0, 1, 1, 1);
        dueEver(x, 0, 2, 1, 3, 2);
        dueEver(x, 2, 0, 0, 3, 2);
        dueEver(x, 1, 0, 1, 1, 1);
        // twice even, and the turn goes on from where it was when the hall was shut
        dueEver(x, 1, 2, 0, 7, 3);
        Calls.town(x, "m1;hy;hy");
        dueEver(x, 0, 0, 0, 1, 1);
        dueEver(x, 2, 1, 0, 2, 1);
        Calls.town(x, "m2;hyy;hyn");
        Calls.agenda(x, 1);
        due("not on the agenda", x.often(0), 0);
        due("even, shut", x.ever(1), 2);
        due("never won", x.often(1), 0);
        due("matter 2", x.often(2), UNKNOWN);
        due("matter -1", x.often(-1), UNKNOWN);
    }

    private static void dueEver(WonBySeats x, int measure, int law, int tail, int ring, int often) {
        Calls.rules(x, measure, law);
        String rules = " by measure " + measure + ", law " + law;
        due("tail" + rules, x.ever(0), tail);
        due("ring" + rules, x.ever(1), ring);
        due("often" + rules, x.often(0), often);
    }

    private static void sway() {
        CHECK.at("13 sway");
        WonBySeats x = new WonBySeats();
        due("no town: a bit of none", x.sway(1, 1), OUTSIDE);
        Calls.town(x, "m1;hy;hy;hn");
        due("it is so", x.sway(1, 1), 0);
        due("one", x.sway(1, 0), 1);
        due("one of two", x.sway(3, 0), 1);
        due("can't be", x.sway(4, 0), NONE);
        due("all", x.sway(7, 0), 1);
        due("nobody", x.sway(0, 0), OUTSIDE);
        due("bit 3", x.sway(8, 0), OUTSIDE);
        due("bit 31", x.sway(MIN, 0), OUTSIDE);
        due("want 2", x.sway(1, 2), OUTSIDE);
        due("want -1", x.sway(1, -1), OUTSIDE);
        Calls.town(x, "m1;hn;hn;hn;hn;hn");
        due("four", x.sway(15, 0), OUTSIDE);
        due("three", x.sway(7, 1), 3);
        due("two are too few", x.sway(3, 1), NONE);
        Calls.town(x, "m1;hy;fn;fn");
        due("a follower of it says what it wishes", x.sway(2, 0), 0);
        due("or, against its wish, yes", x.sway(2, 1), 1);
        // won by 1 or 3 in matter 0: then one sits, or all
        Calls.town(x, "m2;hyn;hyy;hny");
        due("as it is, the oldest says no", x.sway(4, 0), 0);
        due("the youngest says yes for once", x.sway(4, 1), 1);
        due("the oldest can say the other thing", x.sway(1, 1), 1);
        due("the second one has no way", x.sway(2, 1), NONE);
        Calls.town(x, "m2;hny;hyy");
        due("shut", x.sway(2, 1), 1);
        due("shut, then not put: no neither", x.sway(2, 0), NONE);
        due("nothing was changed", x.ofOne(1, 0), 1);
    }

    private static void orders() {
        CHECK.at("14 orders");
        WonBySeats x = new WonBySeats();
        due("no town", x.orders(0, -1), UNKNOWN);
        Calls.town(x, FOUR);
        due("how many", x.orders(0, -1), 1);
        due("first", x.orders(0, 0), 0);
        due("second", x.orders(0, 1), 1);
        due("none", x.orders(1, -1), 0);
        due("none", x.orders(1, 0), NONE);
        due("none", x.orders(1, 1), NONE);
        due("q 2", x.orders(0, 2), UNKNOWN);
        due("q -2", x.orders(0, -2), UNKNOWN);
        due("matter 2", x.orders(2, -1), UNKNOWN);
        due("matter -1", x.orders(-1, -1), UNKNOWN);
        Calls.agenda(x, 0);
        due("not on the agenda", x.orders(1, -1), UNKNOWN);
        due("one order", x.orders(0, -1), 1);
        due("q 1 of one", x.orders(0, 1), UNKNOWN);
        Calls.town(x, "m6;hyyyyyy;hyyyyyy;hyyyyyy");
        Calls.agenda(x, 5, 2, 4);
        due("all", x.orders(2, -1), 6);
        int[] rows = {2, 4, 5};
        for (int q = 0; q < 3; q++) {
            due("the first by numbers", x.orders(4, q), rows[q]);
            due("the agenda is as it was", x.vote(q, 0), new int[] {5, 2, 4}[q]);
        }
        Calls.agenda(x, 0, 1, 2, 3, 4, 5);
        due("all of six", x.orders(5, -1), 720);
        Calls.town(x, "m3;hyny;hyyn;hnyn");
        due("only as the first: then the oldest alone says no", x.orders(1, -1), 2);
        due("first", x.orders(1, 0), 1);
        due("then the least", x.orders(1, 1), 0);
        due("then the other", x.orders(1, 2), 2);
    }

    private static void key() {
        CHECK.at("15 key");
        WonBySeats x = new WonBySeats();
        due("what 2, no town", x.key(2), OUTSIDE);
        due("what -1, no town", x.key(-1), OUTSIDE);
        due("no town", x.key(0), STATE);
        Calls.town(x, "m1;hy;hy;hn");
        due("of several the least", x.key(0), 0);
        due("in one", x.key(1), 1);
        Calls.town(x, "m1;hy;hy;hy;hy;hy");
        due("nobody: the least", x.key(0), 0);
        due("in none", x.key(1), 0);
        Calls.town(x, "m1;cn;hy;hy");
        due("the second", x.key(0), 1);
        due("in one", x.key(1), 1);
        Calls.town(x, "m2;hyy;hyy");
        due("even, then shut", x.key(1), 2);
        due("the first", x.key(0), 0);
        due("nothing was changed", x.ofOne(0, 0), 1);
    }

    private static void lot() {
        CHECK.at("16 lot");
        WonBySeats x = new WonBySeats();
        due("no town", x.lot(0), LOST);
        Calls.town(x, "m2;hyy;hyn;hnn");
        due("which 2", x.lot(2), LOST);
        due("which -1", x.lot(-1), LOST);
        due("one of", x.lot(0), 1);
        due("three", x.lot(1), 3);
        Calls.town(x, "m2;hyy;hyy;hyy;hnn");
        due("three of six: one of", x.lot(0), 1);
        due("two", x.lot(1), 2);
        Calls.town(x, "m2;hyy;hyy;hyn;hnn");
        due("one of", x.lot(0), 1);
        due("six", x.lot(1), 6);
        Calls.town(x, "m1;hn;hn");
        due("never: 0", x.lot(0), 0);
        due("of 1", x.lot(1), 1);
        Calls.town(x, "m2;hyy;hny");
        due("shut: 0", x.lot(0), 0);
        due("of 1", x.lot(1), 1);
        Calls.town(x, "m3;hyyy;hnyy");
        due("behind shut all sit: 1", x.lot(0), 1);
        due("of 1", x.lot(1), 1);
        Calls.town(x, "m2;hyn;hyy;hyy;hyy;hny;hny;hny;hyy");
        due("two sit, both of those seven who say yes, 21 of 28: 3", x.lot(0), 3);
        due("of 4", x.lot(1), 4);
    }

    private static void fits() {
        CHECK.at("17 fits");
        WonBySeats x = new WonBySeats();
        due("sheet", x.fits(4, 3, 0), UNKNOWN);
        due("sort", x.fits(0, 3, 0), OUTSIDE);
        due("nothing", x.fits(0, 0, 9), NULL);
        x.sheet(0, 0, 3);
        due("cast", x.fits(0, 2, 9), CAST);
        due("index, no cells", x.fits(0, 0, 4), INDEX);
        due("index -1", x.fits(0, 0, -1), INDEX);
        due("no town", x.fits(0, 0, 3), STATE);
        due("fault of a refused one", x.fault(), 0);
        Calls.town(x, FOUR);
        due("two cells of one", x.fits(0, 0, 2), INDEX);
        due("a sum that wraps", x.fits(0, 0, MAX), INDEX);
        due("zeros", x.fits(0, 0, 1), 0);
        due("won by", Calls.fits(x, 2, 0), 7);
        due("winners", Calls.fits(x, 3, 2), 56);
        due("losers", Calls.fits(x, 1, 0), 448);
        due("twice", Calls.fits(x, 4, 0), 3584);
        due("no such", Calls.fits(x, 2, 1), 0);
        Calls.agenda(x, 1, 0);
        due("even: by all, people behind what is not put", Calls.fits(x, 0, 4), 4095);
        due("not 0", Calls.fits(x, 0, 0), 0);
        Calls.row(x, 0, 7, 7, 0, 4, 7);
        due("from the middle", x.fits(0, 2, 2), 4095);
        due("measure is as it was", x.many(2), 0);
        Calls.town(x, FIVE);
        due("by winners, whatever the law", Calls.fits(x, 3, 2), 56);
        Calls.town(x, "m2;hny;hyn;hyn");
        due("winners, twice: the oldest, in turn", Calls.fits(x, 2, 0), 2600);
        due("winners: by who won", Calls.fits(x, 2, 2), 16);
        due("twice: by who won", Calls.fits(x, 2, 3), 1024);
    }

    private static void safe() {
        CHECK.at("18 safe");
        WonBySeats x = new WonBySeats();
        due("no town", x.safe(), STATE);
        Calls.town(x, "m2;hyn;hyn;hyn");
        due("all but by those who said the other thing", x.safe(), 3647);
        due("measure is as it was", x.many(2), 0);
        Calls.town(x, FOUR);
        due("none", x.safe(), 0);
        Calls.agenda(x, 0);
        due("one matter, by all", x.safe(), 4095);
        Calls.town(x, "m1;hy;hn");
        due("shut behind the last, too", x.safe(), 0);
        Calls.town(x, "m2;hyy;hyy;hnn");
        due("two sit by 1 and 3; of them both say yes", x.safe(), 3647);
        Calls.town(x, "m2;hyy;hyn;hnn");
        due("by 1 and 3 the first two are even", x.safe(), 7);
    }

    private static void sheetAndLose() {
        CHECK.at("19 sheet, 20 lose");
        WonBySeats x = new WonBySeats();
        due("sheet 4", x.sheet(4, 3, 81), UNKNOWN);
        due("sheet -1", x.sheet(-1, 0, 1), UNKNOWN);
        due("sort 3", x.sheet(0, 3, -1), OUTSIDE);
        due("sort -1", x.sheet(0, -1, 1), OUTSIDE);
        due("81", x.sheet(0, 0, 81), OUTSIDE);
        due("-1", x.sheet(0, 0, -1), SIZE);
        due("least", x.sheet(0, 0, MIN), SIZE);
        due("fault", x.fault(), 4);
        due("it has nothing", x.lose(0), 0);
        due("80", x.sheet(0, 2, 80), 1);
        due("the last", x.put(0, 79, 5), 1);
        due("no more", x.put(0, 80, 5), INDEX);
        due("below 0 changes nothing", x.sheet(0, 2, -1), SIZE);
        due("it is there", x.cell(0, 79, 2), 5);
        due("again", x.sheet(0, 2, 80), 1);
        due("anew", x.cell(0, 79, 2), 0);
        due("of 0 cells", x.sheet(0, 1, 0), 1);
        due("no cell", x.put(0, 0, 0), INDEX);
        due("lose", x.lose(0), 1);
        due("lose again", x.lose(0), 0);
        due("nothing", x.put(0, 0, 0), NULL);
        due("lose 4", x.lose(4), UNKNOWN);
        due("lose -1", x.lose(-1), UNKNOWN);
        due("lose least", x.lose(MIN), UNKNOWN);
    }

    private static void putAndCell() {
        CHECK.at("21 put, 22 cell");
        WonBySeats x = new WonBySeats();
        due("sheet 4", x.put(4, 0, 0), UNKNOWN);
        due("sheet -1", x.put(-1, 0, 0), UNKNOWN);
        due("nothing", x.put(0, -1, 0), NULL);
        due("sheet 4", x.cell(4, 0, 0), LOST);
        due("fault", x.fault(), 0);
        due("sort 3", x.cell(0, 0, 3), LOST);
        due("fault", x.fault(), 0);
        due("nothing", x.cell(0, -1, 0), LOST);
        due("fault", x.fault(), 1);
        int[] values = {200, 40000, 70000, -1, MIN, 127, -129};
        for (int sort = 0; sort < 3; sort++) {
            x.sheet(0, sort, 3);
            for (int v : values) {
                due("put", x.put(0, 2, v), 1);
                due("cell", x.cell(0, 2, sort), sort == 0 ? (byte) v : sort == 1 ? (short) v : v);
            }
            due("put -1", x.put(0, -1, 0), INDEX);
            due("put 3", x.put(0, 3, 0), INDEX);
            due("fault", x.fault(), 3);
            due("as another sort", x.cell(0, 9, sort == 0 ? 1 : 0), LOST);
            due("fault", x.fault(), 2);
            due("beyond", x.cell(0, 3, sort), LOST);
            due("fault", x.fault(), 3);
            due("below", x.cell(0, -1, sort), LOST);
            due("fault", x.fault(), 3);
            due("greatest", x.cell(0, MAX, sort), LOST);
            due("its neighbour", x.cell(0, 1, sort), 0);
            due("fault", x.fault(), 0);
        }
    }

    private static void copy() {
        CHECK.at("23 copy");
        WonBySeats x = new WonBySeats();
        due("sheet 4", x.copy(4, 0, 0, 0, 0), UNKNOWN);
        due("other 4", x.copy(0, 0, 4, 0, 0), UNKNOWN);
        due("other -1", x.copy(0, 0, -1, 0, 0), UNKNOWN);
        due("nothing", x.copy(0, 0, 1, 0, 0), NULL);
        Calls.row(x, 0, 1, 2, 3, 4, 5);
        due("the other has nothing", x.copy(0, -1, 1, 0, 0), NULL);
        due("the first has nothing", x.copy(1, 0, 0, 0, 0), NULL);
        x.sheet(1, 1, 9);
        due("unlike", x.copy(0, -1, 1, 0, -1), CAST);
        x.sheet(1, 2, 3);
        int[][] wrong = {{-1, 0, 0}, {0, -1, 0}, {0, 0, -1}, {6, 0, 0}, {0, 4, 0}, {3, 0, 3}, {0, 1, 3},
            {1, 0, MAX}, {MAX, 0, 1}, {0, MAX, 1}, {0, 0, MIN}, {0, 0, 4}};
        for (int[] w : wrong) {
            due("copy " + w[0] + " " + w[1] + " " + w[2], x.copy(0, w[0], 1, w[1], w[2]), INDEX);
            due("fault", x.fault(), 3);
        }
        due("no cells at both ends", x.copy(0, 5, 1, 3, 0), 0);
        due("two", x.copy(0, 3, 1, 1, 2), 2);
        dueRow(x, 1, 0, 4, 5);
        due("upwards in the same", x.copy(0, 0, 0, 1, 4), 4);
        dueRow(x, 0, 1, 1, 2, 3, 4);
        due("downwards in the same", x.copy(0, 2, 0, 0, 3), 3);
        dueRow(x, 0, 2, 3, 4, 3, 4);
        due("fault", x.fault(), 0);
    }

    private static void dueRow(WonBySeats x, int k, int... want) {
        for (int i = 0; i < want.length; i++) {
            due("cell " + i, x.cell(k, i, 2), want[i]);
        }
    }

    private static void tellAndSwear() {
        CHECK.at("24 tell, 25 swear, 27 trace");
        WonBySeats x = new WonBySeats();
        due("no town", x.tell(0), UNKNOWN);
        due("no town", x.swear(0), UNKNOWN);
        Calls.town(x, "m3;hyyn;fyny;cynn");
        due("honest", x.tell(0), 2);
        due("trace", x.trace(), 1);
        due("follower", x.tell(1), 102);
        due("trace", x.trace(), (1 * 31 + 2) * 31 + 1);
        due("contrary", x.tell(2), 102);
        due("trace", x.trace(), (((1024 * 31 + 3) * 31 + 2) * 31 + 1) * 31 + 1);
        due("one 3", x.tell(3), UNKNOWN);
        due("one -1", x.tell(-1), UNKNOWN);
        due("swear 3", x.swear(3), UNKNOWN);
        due("swear -1", x.swear(-1), UNKNOWN);
        int trace = x.trace();
        due("lent", x.swear(0), 0);
        trace = 31 * trace + 4;
        due("trace", x.trace(), trace);
        due("lent", x.swear(1), 1);
        trace = 31 * trace + 4;
        due("trace", x.trace(), trace);
        due("its own", x.swear(2), 30);
        trace = 31 * trace + 5;
        due("trace wraps", x.trace(), trace);
        x.wish(0, 2, true);
        due("as it wishes now", x.tell(0), 3);
        due("fault", x.fault(), 0);
    }

    private static void asKind() {
        CHECK.at("26 as");
        WonBySeats x = new WonBySeats();
        due("no town", x.as(0, 9), UNKNOWN);
        Calls.town(x, "m1;hy;fy;cy");
        for (int one = 0; one < 3; one++) {
            for (int kind = 0; kind < 3; kind++) {
                due("as", x.as(one, kind), kind <= one ? 1 : CAST);
                due("fault", x.fault(), kind <= one ? 0 : 2);
            }
            due("kind 3", x.as(one, 3), OUTSIDE);
            due("kind -1", x.as(one, -1), OUTSIDE);
        }
        due("one 3", x.as(3, 0), UNKNOWN);
        due("one -1", x.as(-1, 0), UNKNOWN);
    }

    private static void fault() {
        CHECK.at("28 fault");
        WonBySeats x = Calls.ofTown("m1;hy;fy");
        due("cast", x.as(0, 2), CAST);
        // none of these names a fault, so the latest one that does is as() still
        x.ofOne(9, 9);
        x.wish(0, 0, true);
        x.measure(9);
        x.law(0);
        x.vote(0, 0);
        x.decided(0);
        x.sits();
        x.ever(0);
        x.often(0);
        x.sway(1, 1);
        x.orders(0, -1);
        x.key(0);
        x.lot(9);
        x.safe();
        x.lose(0);
        x.lose(9);
        x.tell(0);
        x.swear(0);
        x.trace();
        x.many(9);
        due("fault", x.fault(), 2);
        due("and again", x.fault(), 2);
        dueNoFaultAfter(x, "town", x.town(3, 3, 0, 0), OUTSIDE);
        dueNoFaultAfter(x, "agenda", x.agenda(3, 0, 0, 0), OUTSIDE);
        dueNoFaultAfter(x, "fits", x.fits(9, 0, 0), UNKNOWN);
        dueNoFaultAfter(x, "sheet", x.sheet(0, 0, 81), OUTSIDE);
        dueNoFaultAfter(x, "put", x.put(9, 0, 0), UNKNOWN);
        dueNoFaultAfter(x, "cell", x.cell(9, 0, 0), LOST);
        dueNoFaultAfter(x, "copy", x.copy(9, 0, 0, 0, 0), UNKNOWN);
        dueNoFaultAfter(x, "as", x.as(9, 0), UNKNOWN);
        dueNoFaultAfter(x, "town that is taken", x.town(3, 0, 0, 8), 2);
        dueNoFaultAfter(x, "sheet that is made", x.sheet(1, 0, 1), 1);
        dueNoFaultAfter(x, "put that is done", x.put(1, 0, 0), 1);
        dueNoFaultAfter(x, "agenda that is taken", x.agenda(1, 0, 0, 1), 1);
        dueNoFaultAfter(x, "fits that is told", x.fits(1, 0, 0), 0b000111000000);
    }

    /** Leaves a fault behind, for the next one to take away. */
    private static void dueNoFaultAfter(WonBySeats x, String call, long got, long want) {
        due(call, got, want);
        due("fault after " + call, x.fault(), 0);
        due("a fault", x.sheet(0, 0, -1), SIZE);
        due("is told", x.fault(), 4);
    }

    private static void many() {
        CHECK.at("29 many");
        WonBySeats x = Calls.rules(Calls.ofTown("m5;hyyyyy;hnnnnn;fyyyyy"), 3, 2);
        Calls.agenda(x, 4, 0);
        int[] want = {3, 5, 3, 2, 2};
        for (int what = 0; what < 5; what++) {
            due("many(" + what + ")", x.many(what), want[what]);
        }
        due("many(5)", x.many(5), OUTSIDE);
        due("many(-1)", x.many(-1), OUTSIDE);
        due("many least", x.many(MIN), OUTSIDE);
    }
}
