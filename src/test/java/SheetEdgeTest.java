import java.math.BigInteger;

/** Section 6, promises 1 and 19 to 29: the edges of sheets, cells and copies, of kinds, trace, fault and counts. */
public final class SheetEdgeTest {
    private static final int UNKNOWN = -1, OUTSIDE = -2;
    private static final int NULL = Calls.NULL, CAST = Calls.CAST, INDEX = Calls.INDEX, SIZE = Calls.SIZE;
    private static final int MIN = Integer.MIN_VALUE, MAX = Integer.MAX_VALUE;
    private static final long LOST = Long.MIN_VALUE;
    private static final Check CHECK = new Check("SheetEdgeTest");

    public static void main(String[] args) {
        newObject();
        objectsApart();
        sheetLengths();
        sheetSorts();
        newRow();
        loseRow();
        putEnds();
        cutToSort();
        cellFaults();
        copyEnds();
        copyOverItself();
        copyNulls();
        copySorts();
        tellings();
        sworn();
        traceWraps();
        kinds();
        faultFirstComeTo();
        faultOfTheLatest();
        manyCounts();
        lastCalls();
        CHECK.finish();
    }

    private static void due(String call, long got, long want) {
        CHECK.due(call, got, want);
    }

    private static void newObject() {
        CHECK.at("no TOWN (no PEOPLE, MATTERS), SHEETS have nothing");
        for (int what = 0; what < 5; what++) {
            due("many(" + what + ")", new WonBySeats().many(what), 0);
        }
        for (int k = 0; k < 4; k++) {
            due("lose(" + k + ")", new WonBySeats().lose(k), 0);
            due("put(" + k + ", 0, 0)", new WonBySeats().put(k, 0, 0), NULL);
            for (int sort = 0; sort < 3; sort++) {
                due("town(" + k + ", " + sort + ", 0, 0)", new WonBySeats().town(k, sort, 0, 0), NULL);
            }
        }
        due("trace()", new WonBySeats().trace(), 0);
        due("fault()", new WonBySeats().fault(), 0);
    }

    private static void objectsApart() {
        CHECK.at("a new object has nothing of another one");
        // asked of an object like it: to see all takes so many calls that an object is seen but once
        long[] before = Scene.seen(Scene.TOWN.make());
        WonBySeats x = Scene.TOWN.make();
        WonBySeats y = new WonBySeats();
        due("no people", y.many(0), 0);
        due("no sheet", y.lose(0), 0);
        due("no trace", y.trace(), 0);
        due("no fault", y.fault(), 0);
        Calls.town(y, "m1;cy;cy");
        y.swear(0);
        y.measure(1);
        CHECK.holds("and the other one nothing of it", java.util.Arrays.equals(Scene.seen(x), before));
    }

    private static void sheetLengths() {
        CHECK.at("a row of 0 .. 80 numbers; n above 80; SIZE");
        int[][] want = {{MIN, SIZE}, {-1, SIZE}, {0, 1}, {1, 1}, {79, 1}, {80, 1}, {81, OUTSIDE}, {MAX, OUTSIDE}};
        for (int[] row : want) {
            WonBySeats x = new WonBySeats();
            due("sheet(3, 2, " + row[0] + ")", x.sheet(3, 2, row[0]), row[1]);
            due("fault()", x.fault(), row[1] == SIZE ? 4 : 0);
            if (row[1] == 1) {
                due("behind its end", x.put(3, row[0], 1), INDEX);
                due("its last cell", x.put(3, row[0] - 1, 1), row[0] == 0 ? INDEX : 1);
            } else {
                due("it has nothing still", x.lose(3), 0);
            }
        }
        CHECK.at("OUTSIDE: sort, n above 80; then SIZE");
        WonBySeats x = new WonBySeats();
        due("both", x.sheet(0, 3, 81), OUTSIDE);
        due("sort and SIZE", x.sheet(0, 3, -1), OUTSIDE);
        due("no sheet, sort, SIZE", x.sheet(4, 3, -1), UNKNOWN);
        due("no sheet below", x.sheet(-1, 0, 1), UNKNOWN);
    }

    private static void sheetSorts() {
        CHECK.at("of a SORT: 0 bytes, 1 shorts, 2 ints");
        for (int sort = -1; sort <= 3; sort++) {
            WonBySeats x = new WonBySeats();
            boolean known = sort >= 0 && sort <= 2;
            due("sheet(0, " + sort + ", 1)", x.sheet(0, sort, 1), known ? 1 : OUTSIDE);
            for (int as = 0; as < 3; as++) {
                due("cell as " + as, x.cell(0, 0, as), known && as == sort ? 0 : LOST);
                due("fault()", x.fault(), !known ? 1 : as == sort ? 0 : 2);
            }
        }
    }

    private static void newRow() {
        CHECK.at("a SHEET gets a new row (0 at first)");
        WonBySeats x = new WonBySeats();
        int[] ways = {2, 2, 0, 1, 2};
        for (int sort : ways) {
            due("sheet", x.sheet(1, sort, 80), 1);
            for (int i = 0; i < 80; i += 79) {
                due("cell " + i, x.cell(1, i, sort), 0);
                x.put(1, i, 100 + i);
            }
        }
        due("a shorter one", x.sheet(1, 2, 1), 1);
        due("has no more cells", x.put(1, 1, 5), INDEX);
        due("a longer one again", x.sheet(1, 2, 80), 1);
        due("has none of the old numbers", x.cell(1, 79, 2), 0);
        due("behind nothing", x.lose(1), 1);
        due("again", x.sheet(1, 2, 80), 1);
        due("none of the old numbers", x.cell(1, 0, 2), 0);
        CHECK.at("each SHEET has its own");
        for (int k = 0; k < 4; k++) {
            x.sheet(k, 2, 2);
            x.put(k, 1, 10 + k);
        }
        for (int k = 0; k < 4; k++) {
            due("cell of " + k, x.cell(k, 1, 2), 10 + k);
        }
    }

    private static void loseRow() {
        CHECK.at("a SHEET has nothing: 1; 0: it had nothing");
        WonBySeats x = new WonBySeats();
        for (int k = 0; k < 4; k++) {
            due("nothing", x.lose(k), 0);
            x.sheet(k, k % 3, 0);
            due("a row without cells is not nothing", x.lose(k), 1);
            due("nothing again", x.lose(k), 0);
            due("as of any sort: NULL, not CAST", x.cell(k, 0, (k + 1) % 3), LOST);
            due("fault()", x.fault(), 1);
        }
        due("lose(-1)", x.lose(-1), UNKNOWN);
        due("lose(4)", x.lose(4), UNKNOWN);
        x.sheet(0, 0, 1);
        x.sheet(1, 0, 1);
        x.lose(0);
        due("another one keeps its row", x.put(1, 0, 1), 1);
    }

    private static void putEnds() {
        CHECK.at("cell i of a SHEET becomes v: UNKNOWN; NULL; INDEX");
        WonBySeats x = new WonBySeats();
        Calls.row(x, 0, 7, 8, 9);
        int[][] want = {{MIN, INDEX}, {-1, INDEX}, {0, 1}, {2, 1}, {3, INDEX}, {80, INDEX}, {MAX, INDEX}};
        for (int[] row : want) {
            due("put(0, " + row[0] + ", 5)", x.put(0, row[0], 5), row[1]);
            due("fault()", x.fault(), row[1] == 1 ? 0 : 3);
        }
        dueRow(x, 0, 5, 8, 5);
        due("nothing, and beyond", x.put(1, -1, 5), NULL);
        due("no such sheet, and beyond", x.put(4, -1, 5), UNKNOWN);
    }

    private static void cutToSort() {
        CHECK.at("what comes to a cell of it is cut to its SORT");
        int[][] bytes = {{127, 127}, {128, -128}, {-128, -128}, {-129, 127}, {255, -1}, {256, 0}, {MAX, -1}, {MIN, 0}};
        int[][] shorts = {{32767, 32767}, {32768, -32768}, {-32768, -32768}, {-32769, 32767}, {65535, -1}, {65536, 0},
            {128, 128}, {MAX, -1}, {MIN, 0}};
        int[][] ints = {{MAX, MAX}, {MIN, MIN}, {65536, 65536}, {-1, -1}};
        int[][][] all = {bytes, shorts, ints};
        WonBySeats x = new WonBySeats();
        for (int sort = 0; sort < 3; sort++) {
            x.sheet(0, sort, 3);
            for (int[] way : all[sort]) {
                due("put " + way[0], x.put(0, 1, way[0]), 1);
                due("cell of sort " + sort, x.cell(0, 1, sort), way[1]);
            }
            due("the one ahead", x.cell(0, 0, sort), 0);
            due("the one behind", x.cell(0, 2, sort), 0);
        }
    }

    private static void cellFaults() {
        CHECK.at("LOST: UNKNOWN, OUTSIDE: sort; FAULTS CAST (nothing is no CAST), NULL, INDEX");
        WonBySeats x = new WonBySeats();
        x.sheet(0, 1, 2);
        int[][] want = {{-1, 9, 9, 0}, {4, 0, 0, 0}, {0, 9, -1, 0}, {0, 9, 3, 0}, {1, 9, 3, 0}, {0, 9, 0, 2}, {0, 0, 2, 2},
            {1, 9, 0, 1}, {1, 0, 1, 1}, {0, -1, 1, 3}, {0, 2, 1, 3}, {0, MIN, 1, 3}, {0, MAX, 1, 3}};
        for (int[] row : want) {
            String call = "cell(" + row[0] + ", " + row[1] + ", " + row[2] + ")";
            x.as(0, 0);
            due(call, x.cell(row[0], row[1], row[2]), LOST);
            due("fault() of " + call, x.fault(), row[3]);
        }
        due("the first", x.cell(0, 0, 1), 0);
        due("the last", x.cell(0, 1, 1), 0);
        due("fault()", x.fault(), 0);
    }

    private static void copyEnds() {
        CHECK.at("INDEX: i, j, n below 0 or beyond");
        int[][] want = {{0, 0, 3, 3}, {2, 0, 3, 3}, {3, 0, 3, INDEX}, {0, 0, 4, INDEX}, {0, 1, 3, INDEX}, {0, 1, 2, 2},
            {4, 2, 1, 1}, {4, 2, 2, INDEX}, {5, 0, 1, INDEX}, {0, 3, 1, INDEX}, {-1, 0, 1, INDEX}, {0, -1, 1, INDEX},
            {0, 0, -1, INDEX}, {MAX, 0, 1, INDEX}, {0, MAX, 1, INDEX}, {1, 1, MAX, INDEX}, {MAX, MAX, MAX, INDEX},
            {MIN, MIN, MIN, INDEX}};
        for (int[] row : want) {
            dueCopy(row);
        }
        CHECK.at("also where i is not 0 .. how many there are, if none of them is taken, too");
        int[][] none = {{0, 0, 0, 0}, {5, 3, 0, 0}, {5, 0, 0, 0}, {0, 3, 0, 0}, {6, 0, 0, INDEX}, {0, 4, 0, INDEX},
            {-1, 0, 0, INDEX}, {0, -1, 0, INDEX}};
        for (int[] row : none) {
            dueCopy(row);
        }
    }

    private static void dueCopy(int[] row) {
        WonBySeats x = new WonBySeats();
        Calls.row(x, 0, 1, 2, 3, 4, 5);
        Calls.row(x, 1, 7, 8, 9);
        String call = "copy(0, " + row[0] + ", 1, " + row[1] + ", " + row[2] + ")";
        due(call, x.copy(0, row[0], 1, row[1], row[2]), row[3]);
        due("fault() of " + call, x.fault(), row[3] < 0 ? 3 : 0);
        int[] to = {7, 8, 9};
        for (int c = 0; c < row[3]; c++) {
            to[row[1] + c] = 1 + row[0] + c;
        }
        dueRow(x, 0, 1, 2, 3, 4, 5);
        dueRow(x, 1, to);
    }

    private static void copyOverItself() {
        CHECK.at("go to another one (perhaps the same), as they were");
        WonBySeats x = new WonBySeats();
        Calls.row(x, 0, 1, 2, 3, 4, 5);
        due("one up", x.copy(0, 0, 0, 1, 4), 4);
        dueRow(x, 0, 1, 1, 2, 3, 4);
        due("two down", x.copy(0, 2, 0, 0, 3), 3);
        dueRow(x, 0, 2, 3, 4, 3, 4);
        due("onto itself", x.copy(0, 0, 0, 0, 5), 5);
        dueRow(x, 0, 2, 3, 4, 3, 4);
        due("one up too many", x.copy(0, 0, 0, 1, 5), INDEX);
        dueRow(x, 0, 2, 3, 4, 3, 4);
        CHECK.at("a full SHEET");
        x.sheet(1, 0, 80);
        x.sheet(2, 0, 80);
        x.put(1, 0, -128);
        x.put(1, 79, 127);
        due("all 80", x.copy(1, 0, 2, 0, 80), 80);
        due("the first", x.cell(2, 0, 0), -128);
        due("the last", x.cell(2, 79, 0), 127);
        due("81", x.copy(1, 0, 2, 0, 81), INDEX);
    }

    private static void copyNulls() {
        CHECK.at("NULL (the first, the other), ahead of CAST and INDEX");
        WonBySeats x = new WonBySeats();
        due("both", x.copy(0, -1, 1, -1, -1), NULL);
        x.sheet(0, 0, 2);
        due("the other", x.copy(0, -1, 1, -1, -1), NULL);
        due("the first", x.copy(1, -1, 0, -1, -1), NULL);
        due("the same", x.copy(1, 0, 1, 0, 0), NULL);
        due("fault()", x.fault(), 1);
        due("no such first", x.copy(4, 0, 0, 0, 0), UNKNOWN);
        due("no such first, the other nothing", x.copy(-1, 0, 1, 0, 0), UNKNOWN);
        due("no such other, the first nothing", x.copy(1, 0, 4, 0, 0), UNKNOWN);
        due("fault()", x.fault(), 0);
    }

    private static void copySorts() {
        CHECK.at("CAST (unlike SORTS), ahead of INDEX");
        for (int from = 0; from < 3; from++) {
            for (int to = 0; to < 3; to++) {
                WonBySeats x = new WonBySeats();
                x.sheet(0, from, 2);
                x.sheet(1, to, 2);
                due(from + " to " + to, x.copy(0, 0, 1, 0, 2), from == to ? 2 : CAST);
                due(from + " to " + to + ", beyond", x.copy(0, 0, 1, 0, 3), from == to ? INDEX : CAST);
                due(from + " to " + to + ", no cells", x.copy(0, 2, 1, 2, 0), from == to ? 0 : CAST);
            }
        }
    }

    private static void dueRow(WonBySeats x, int k, int... want) {
        for (int i = 0; i < want.length; i++) {
            due("cell " + i, x.cell(k, i, 2), want[i]);
        }
    }

    /** What TRACE becomes, by numbers that do not wrap, cut at the end. */
    private static int traceOf(int... numbers) {
        BigInteger trace = BigInteger.ZERO;
        for (int number : numbers) {
            trace = trace.multiply(BigInteger.valueOf(31)).add(BigInteger.valueOf(number));
        }
        return trace.intValue();
    }

    private static void tellings() {
        CHECK.at("TELLING of PEOPLE");
        String[] signs = {"nnnnnn", "nnnnny", "yyyyyy"};
        int[] yes = {0, 1, 6};
        for (int s = 0; s < 3; s++) {
            WonBySeats x = Calls.ofTown("m6;h" + signs[s] + ";f" + signs[s] + ";c" + signs[s]);
            due("honest", x.tell(0), yes[s]);
            due("trace()", x.trace(), traceOf(1));
            due("follower", x.tell(1), yes[s] + 100);
            due("trace()", x.trace(), traceOf(1, 2, 1));
            due("contrary", x.tell(2), 2 * yes[s] + 100);
            due("trace()", x.trace(), traceOf(1, 2, 1, 3, 2, 1, 1));
            due("one beyond", x.tell(3), UNKNOWN);
            due("one below", x.tell(-1), UNKNOWN);
            due("trace() of a refused one", x.trace(), traceOf(1, 2, 1, 3, 2, 1, 1));
        }
        due("no town", new WonBySeats().tell(0), UNKNOWN);
        WonBySeats x = Calls.ofTown("m2;hyy;hyy");
        Calls.agenda(x, 1);
        due("in all matters, on the agenda or not", x.tell(0), 2);
    }

    private static void sworn() {
        CHECK.at("SWORN by a lent body (4): its number; CONTRARY ones have their own (5): 30");
        WonBySeats x = Calls.ofTown("m1" + ";hy;fy;cy;hy;fy;cy;hy;fy");
        int[] want = {0, 1, 30, 3, 4, 30, 6, 7};
        int[] bodies = {4, 4, 5, 4, 4, 5, 4, 4};
        for (int one = 0; one < 8; one++) {
            due("swear(" + one + ")", x.swear(one), want[one]);
            due("trace()", x.trace(), traceOf(java.util.Arrays.copyOf(bodies, one + 1)));
        }
        due("one beyond", x.swear(8), UNKNOWN);
        due("one below", x.swear(-1), UNKNOWN);
        due("trace() of a refused one", x.trace(), traceOf(bodies));
        due("no town", new WonBySeats().swear(0), UNKNOWN);
    }

    private static void traceWraps() {
        CHECK.at("TRACE (an int that wraps)");
        WonBySeats x = Calls.ofTown("m1;hy;fy;cy");
        int[] bodies = new int[40];
        boolean below = false;
        for (int call = 0; call < 40; call++) {
            bodies[call] = call % 3 == 0 ? 5 : 4;
            x.swear(call % 3 == 0 ? 2 : 1);
            int want = traceOf(java.util.Arrays.copyOf(bodies, call + 1));
            due("trace() after " + (call + 1), x.trace(), want);
            below |= want < 0;
        }
        CHECK.holds("it was below 0", below);
        int before = x.trace();
        due("a new town", Calls.town(x, "m1;hy;hy"), 2);
        due("leaves it", x.trace(), before);
        due("asking leaves it", x.trace(), before);
    }

    private static void kinds() {
        CHECK.at("CAST: it is none (each is HONEST, too; a CONTRARY one is a FOLLOWER)");
        WonBySeats x = Calls.ofTown("m1;hy;fy;cy");
        int[][] want = {{OUTSIDE, 1, CAST, CAST, OUTSIDE}, {OUTSIDE, 1, 1, CAST, OUTSIDE}, {OUTSIDE, 1, 1, 1, OUTSIDE}};
        for (int one = 0; one < 3; one++) {
            for (int kind = -1; kind <= 3; kind++) {
                due("as(" + one + ", " + kind + ")", x.as(one, kind), want[one][kind + 1]);
                due("fault()", x.fault(), want[one][kind + 1] == CAST ? 2 : 0);
                due("its kind is what it was", x.ofOne(one, -1), one);
            }
        }
        due("one beyond, no kind", x.as(3, 3), UNKNOWN);
        due("one below, no kind", x.as(-1, -1), UNKNOWN);
        due("no town, no kind", new WonBySeats().as(0, 3), UNKNOWN);
    }

    private static void faultFirstComeTo() {
        CHECK.at("of a call the first that is come to, in the order told");
        WonBySeats x = Calls.ofTown("m1;hy;hy");
        x.sheet(0, 0, 2);
        x.lose(1);
        due("town: CAST, SIZE, INDEX", x.town(0, 1, -1, -1), CAST);
        due("town: NULL, SIZE, INDEX", x.town(1, 0, -1, -1), NULL);
        due("town: SIZE, INDEX", x.town(0, 0, -1, -1), SIZE);
        due("town: INDEX", x.town(0, 0, -1, 0), INDEX);
        due("town: no fault but of the text", x.town(0, 0, 0, 2), -100);
        due("agenda: CAST, SIZE, INDEX", x.agenda(0, 1, 3, -1), CAST);
        due("agenda: NULL, SIZE, INDEX", x.agenda(1, 0, 3, -1), NULL);
        due("agenda: SIZE, INDEX", x.agenda(0, 0, 3, -1), SIZE);
        due("agenda: INDEX, n is not 1 .. 6", x.agenda(0, 0, 3, 0), INDEX);
        due("agenda: INDEX, n is not 1 .. 6", x.agenda(0, 0, 0, 7), INDEX);
        due("agenda: n is not 1 .. 6", x.agenda(0, 0, 2, 0), OUTSIDE);
        due("fits: CAST, INDEX", x.fits(0, 1, 3), CAST);
        due("fits: NULL, INDEX", x.fits(1, 0, 3), NULL);
        due("fits: INDEX", x.fits(0, 0, 2), INDEX);
    }

    private static void faultOfTheLatest() {
        CHECK.at("the FAULT of the latest call that names one: 0: it came to none, or was refused");
        WonBySeats x = Calls.ofTown("m1;hy;hy");
        x.sheet(0, 0, 1);
        x.lose(1);
        int[][] want = {{x.put(1, 0, 0), x.fault(), 1}, {x.put(0, 0, 0), x.fault(), 0}, {x.put(0, 1, 0), x.fault(), 3},
            {x.put(4, 0, 0), x.fault(), 0}, {x.as(0, 1), x.fault(), 2}, {x.as(0, 0), x.fault(), 0},
            {x.sheet(0, 0, -1), x.fault(), 4}, {x.as(9, 0), x.fault(), 0}, {x.fits(0, 1, 0), x.fault(), 2},
            {x.fits(0, 0, 0), x.fault(), 0}, {x.agenda(0, 0, 0, -1), x.fault(), 4}, {x.agenda(0, 0, 0, 1), x.fault(), 0},
            {x.copy(0, 0, 1, 0, 0), x.fault(), 1}, {x.copy(0, 0, 0, 0, 1), x.fault(), 0},
            {x.town(0, 0, 2, 0), x.fault(), 3}, {x.town(0, 0, 0, 1), x.fault(), 0}};
        for (int r = 0; r < want.length; r++) {
            due("fault() of call " + r + ", which answered " + want[r][0], want[r][1], want[r][2]);
        }
        CHECK.at("a call that names none leaves it");
        due("a fault", x.put(0, 1, 0), INDEX);
        due("lose names none", x.lose(0) + x.lose(0) + x.lose(9), 0);
        due("tell, swear and many name none", x.tell(9) + x.swear(9) + x.many(9), -4);
        due("fault()", x.fault(), 3);
        due("and again", x.fault(), 3);
    }

    private static void manyCounts() {
        CHECK.at("how many: 0 PEOPLE, 1 MATTERS, 2 MEASURE, 3 LAW, 4 MATTERS on the AGENDA");
        WonBySeats x = Calls.rules(Calls.ofTown("m6" + ";hyyyyyy".repeat(8)), 3, 2);
        Calls.agenda(x, 4);
        int[] want = {OUTSIDE, 8, 6, 3, 2, 1, OUTSIDE};
        for (int what = -1; what <= 5; what++) {
            due("many(" + what + ")", x.many(what), want[what + 1]);
        }
        due("least", x.many(MIN), OUTSIDE);
        due("greatest", x.many(MAX), OUTSIDE);
    }

    private static void lastCalls() {
        CHECK.at("an object is used for at most 512 calls");
        WonBySeats x = Calls.ofTown("m1;hy;fy;cy");
        // town() made 13 calls
        int[] bodies = new int[498];
        for (int call = 0; call < 498; call++) {
            bodies[call] = 4;
            x.swear(0);
        }
        due("the 512th", x.trace(), traceOf(bodies));
    }
}
