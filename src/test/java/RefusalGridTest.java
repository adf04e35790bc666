import java.util.Arrays;

/**
 * REFUSALS and FAULTS: every call with numbers on both sides of every bound, all of them with all, in each scene.
 * The answer is that of the first bound, in the order told, that is not kept; nothing else is changed by it.
 */
public final class RefusalGridTest {
    private static final int UNKNOWN = -1, OUTSIDE = -2, STATE = -3;
    private static final int NULL = Calls.NULL, CAST = Calls.CAST, INDEX = Calls.INDEX, SIZE = Calls.SIZE;
    private static final int MIN = Integer.MIN_VALUE, MAX = Integer.MAX_VALUE;
    /** The call is neither refused nor comes to a fault. */
    private static final int TAKEN = 0;
    private static final Check CHECK = new Check("RefusalGridTest");

    private static final int[] SHEETS = {MIN, -1, 0, 1, 2, 3, 4, MAX};
    private static final int[] SORTS = {MIN, -1, 0, 1, 2, 3, MAX};
    private static final int[] PLACES = {MIN, -1, 0, 1, 21, 22, 23, 74, 78, 79, 80, 81, MAX};
    private static final int[] COUNTS = {MIN, -1, 0, 1, 2, 3, 4, 5, 6, 7, 22, 23, 80, 81, MAX};
    private static final int[] ONES = {MIN, -1, 0, 1, 2, 3, 4, 8, MAX};
    private static final int[] MATTERS = {MIN, -1, 0, 1, 2, 3, 6, MAX};
    private static final int[] SMALL = {MIN, -2, -1, 0, 1, 2, 3, 4, 5, MAX};
    private static final int[] SETS = {MIN, MIN + 1, -1, 0, 1, 3, 7, 8, 14, 15, 16, 17, 255, 256, MAX};

    private interface Call {
        long on(WonBySeats x, int[] a);
    }

    private interface Rule {
        int of(Scene s, int[] a);
    }

    public static void main(String[] args) {
        theTown();
        runs();
        searches();
        sheets();
        people();
        CHECK.finish();
    }

    private static void theTown() {
        faulty("town", (x, a) -> x.town(a[0], a[1], a[2], a[3]),
            (s, a) -> cells(s, a[0], a[1], a[2], a[3]), SHEETS, SORTS, PLACES, COUNTS);
        plain("ofOne", (x, a) -> x.ofOne(a[0], a[1]),
            (s, a) -> !isOne(s, a[0]) ? UNKNOWN : a[1] != -1 && !isMatter(s, a[1]) ? OUTSIDE : TAKEN, ONES, SMALL);
        plain("wish", (x, a) -> x.wish(a[0], a[1], a[2] == 1),
            (s, a) -> !isOne(s, a[0]) || !isMatter(s, a[1]) ? UNKNOWN : TAKEN, ONES, MATTERS, new int[] {0, 1});
        plain("measure", (x, a) -> x.measure(a[0]), (s, a) -> outsideOrState(s, a[0], 3), SMALL);
        plain("law", (x, a) -> x.law(a[0]), (s, a) -> outsideOrState(s, a[0], 2), SMALL);
        faulty("agenda", (x, a) -> x.agenda(a[0], a[1], a[2], a[3]), RefusalGridTest::agenda,
            SHEETS, SORTS, PLACES, COUNTS);
    }

    private static int agenda(Scene s, int[] a) {
        int refusal = cells(s, a[0], a[1], a[2], a[3]);
        if (refusal != TAKEN) {
            return refusal;
        }
        if (!s.hasTown()) {
            return STATE;
        }
        if (a[3] < 1 || a[3] > 6) {
            return OUTSIDE;
        }
        int[] told = new int[a[3]];
        for (int q = 0; q < a[3]; q++) {
            told[q] = s.cell(a[0], a[2] + q);
        }
        if (!Arrays.stream(told).allMatch(m -> isMatter(s, m))) {
            return UNKNOWN;
        }
        return Arrays.stream(told).distinct().count() < a[3] ? OUTSIDE : TAKEN;
    }

    private static void runs() {
        plain("vote", (x, a) -> x.vote(a[0], a[1]),
            (s, a) -> !isPlace(s, a[0]) ? UNKNOWN : a[1] < 0 || a[1] > 4 ? OUTSIDE : TAKEN, SMALL, SMALL);
        plain("decided", (x, a) -> x.decided(a[0]), (s, a) -> isMatter(s, a[0]) ? TAKEN : UNKNOWN, MATTERS);
        plain("sits", (x, a) -> x.sits(), (s, a) -> s.hasTown() ? TAKEN : STATE);
        plain("ever", (x, a) -> x.ever(a[0]), (s, a) -> outsideOrState(s, a[0], 1), SMALL);
        plain("often", (x, a) -> x.often(a[0]), (s, a) -> isMatter(s, a[0]) ? TAKEN : UNKNOWN, MATTERS);
    }

    private static void searches() {
        plain("sway", (x, a) -> x.sway(a[0], a[1]), RefusalGridTest::sway, SETS, SMALL);
        plain("orders", (x, a) -> x.orders(a[0], a[1]), (s, a) -> {
            boolean on = Arrays.stream(s.agenda()).anyMatch(m -> m == a[0]);
            return on && (a[1] == -1 || isPlace(s, a[1])) ? TAKEN : UNKNOWN;
        }, MATTERS, SMALL);
        plain("key", (x, a) -> x.key(a[0]), (s, a) -> outsideOrState(s, a[0], 1), SMALL);
        plain("lot", (x, a) -> lostAs(x.lot(a[0]), OUTSIDE),
            (s, a) -> outsideOrState(s, a[0], 1) == TAKEN ? TAKEN : OUTSIDE, SMALL);
        faulty("fits", (x, a) -> x.fits(a[0], a[1], a[2]), (s, a) -> {
            int refusal = cells(s, a[0], a[1], a[2], s.agenda().length);
            return refusal != TAKEN ? refusal : s.hasTown() ? TAKEN : STATE;
        }, SHEETS, SORTS, PLACES);
        plain("safe", (x, a) -> x.safe(), (s, a) -> s.hasTown() ? TAKEN : STATE);
    }

    private static int sway(Scene s, int[] a) {
        int members = 0;
        for (int bit = 0; bit < 32; bit++) {
            if ((a[0] >> bit & 1) == 1) {
                members++;
                if (bit >= s.people()) {
                    return OUTSIDE;
                }
            }
        }
        return members < 1 || members > 3 || a[1] < 0 || a[1] > 1 ? OUTSIDE : TAKEN;
    }

    private static void sheets() {
        faulty("sheet", (x, a) -> x.sheet(a[0], a[1], a[2]),
            (s, a) -> !isSheet(a[0]) ? UNKNOWN : !isSort(a[1]) || a[2] > 80 ? OUTSIDE : a[2] < 0 ? SIZE : TAKEN,
            SHEETS, SORTS, COUNTS);
        plain("lose", (x, a) -> x.lose(a[0]), (s, a) -> isSheet(a[0]) ? TAKEN : UNKNOWN, SHEETS);
        faulty("put", (x, a) -> x.put(a[0], a[1], a[2]), (s, a) -> {
            if (!isSheet(a[0])) {
                return UNKNOWN;
            }
            return s.length(a[0]) < 0 ? NULL : a[1] < 0 || a[1] >= s.length(a[0]) ? INDEX : TAKEN;
        }, SHEETS, PLACES, SMALL);
        faulty("cell", (x, a) -> lostAs(x.cell(a[0], a[1], a[2]), OUTSIDE),
            (s, a) -> cells(s, a[0], a[2], a[1], 1) == TAKEN ? TAKEN : OUTSIDE,
            (s, a) -> faultOf(cells(s, a[0], a[2], a[1], 1)), SHEETS, PLACES, SORTS);
        int[] ends = {MIN, -1, 0, 1, 22, 23, 80, 81, MAX};
        faulty("copy", (x, a) -> x.copy(a[0], a[1], a[2], a[3], a[4]), RefusalGridTest::copy,
            SHEETS, ends, SHEETS, ends, ends);
    }

    private static int copy(Scene s, int[] a) {
        if (!isSheet(a[0]) || !isSheet(a[2])) {
            return UNKNOWN;
        }
        if (s.length(a[0]) < 0 || s.length(a[2]) < 0) {
            return NULL;
        }
        if (s.sort(a[0]) != s.sort(a[2])) {
            return CAST;
        }
        boolean below = a[1] < 0 || a[3] < 0 || a[4] < 0;
        boolean beyond = (long) a[1] + a[4] > s.length(a[0]) || (long) a[3] + a[4] > s.length(a[2]);
        return below || beyond ? INDEX : TAKEN;
    }

    private static void people() {
        Rule known = (s, a) -> isOne(s, a[0]) ? TAKEN : UNKNOWN;
        plain("tell", (x, a) -> x.tell(a[0]), known, ONES);
        plain("swear", (x, a) -> x.swear(a[0]), known, ONES);
        faulty("as", (x, a) -> x.as(a[0], a[1]), (s, a) -> {
            if (!isOne(s, a[0])) {
                return UNKNOWN;
            }
            int kind = "hfc".indexOf(Scene.TEXT.charAt(3 + 5 * a[0]));
            return a[1] < 0 || a[1] > 2 ? OUTSIDE : a[1] > kind ? CAST : TAKEN;
        }, ONES, SMALL);
        plain("trace", (x, a) -> x.trace(), (s, a) -> TAKEN);
        plain("many", (x, a) -> x.many(a[0]), (s, a) -> a[0] < 0 || a[0] > 4 ? OUTSIDE : TAKEN, SMALL);
    }

    /** A row of cells taken as one of a sort: what town, agenda, fits and cell have in common. */
    private static int cells(Scene s, int k, int sort, int i, int n) {
        if (!isSheet(k)) {
            return UNKNOWN;
        }
        if (!isSort(sort)) {
            return OUTSIDE;
        }
        if (s.length(k) >= 0 && s.sort(k) != sort) {
            return CAST;
        }
        if (s.length(k) < 0) {
            return NULL;
        }
        if (n < 0) {
            return SIZE;
        }
        return i < 0 || i > s.length(k) || (long) i + n > s.length(k) ? INDEX : TAKEN;
    }

    private static int outsideOrState(Scene s, int v, int most) {
        return v < 0 || v > most ? OUTSIDE : s.hasTown() ? TAKEN : STATE;
    }

    private static boolean isOne(Scene s, int x) {
        return x >= 0 && x < s.people();
    }

    private static boolean isMatter(Scene s, int m) {
        return m >= 0 && m < s.matters();
    }

    private static boolean isPlace(Scene s, int q) {
        return q >= 0 && q < s.agenda().length;
    }

    private static boolean isSheet(int k) {
        return k >= 0 && k < 4;
    }

    private static boolean isSort(int sort) {
        return sort >= 0 && sort < 3;
    }

    private static int faultOf(int answer) {
        return answer <= NULL && answer >= SIZE ? -10 - answer : 0;
    }

    /** Where a long is answered, LOST stands for every refusal and fault. */
    private static long lostAs(long answer, int refusal) {
        return answer == WonBySeats.LOST ? refusal : 1000;
    }

    /** A call that names no FAULTS leaves fault() as it was. */
    private static void plain(String name, Call call, Rule rule, int[]... numbers) {
        for (Scene s : Scene.values()) {
            new Grid(name, s, call, rule, (scene, a) -> scene.faultBefore).go(numbers);
        }
    }

    /** A call that names FAULTS changes fault(), even if it is refused. */
    private static void faulty(String name, Call call, Rule rule, int[]... numbers) {
        faulty(name, call, rule, (s, a) -> faultOf(rule.of(s, a)), numbers);
    }

    private static void faulty(String name, Call call, Rule rule, Rule fault, int[]... numbers) {
        for (Scene s : Scene.values()) {
            new Grid(name, s, call, rule, fault).go(numbers);
        }
    }

    /** One call in one scene by all its numbers. */
    private static final class Grid {
        private final String name;
        private final Scene scene;
        private final Call call;
        private final Rule rule;
        private final Rule fault;
        private final long[] before;

        Grid(String name, Scene scene, Call call, Rule rule, Rule fault) {
            this.name = name;
            this.scene = scene;
            this.call = call;
            this.rule = rule;
            this.fault = fault;
            before = Scene.seen(scene.make());
        }

        void go(int[]... numbers) {
            int[] at = new int[numbers.length];
            int[] a = new int[numbers.length];
            boolean more = true;
            while (more) {
                for (int p = 0; p < a.length; p++) {
                    a[p] = numbers[p][at[p]];
                }
                check(a);
                more = false;
                for (int p = 0; p < at.length && !more; p++) {
                    at[p] = (at[p] + 1) % numbers[p].length;
                    more = at[p] != 0;
                }
            }
        }

        private void check(int[] a) {
            CHECK.at(scene + ": " + name + Arrays.toString(a));
            WonBySeats x = scene.make();
            long got = call.on(x, a);
            int fault = x.fault();
            int want = rule.of(scene, a);
            if (want == TAKEN) {
                CHECK.holds("is taken, not " + got, got >= 0 || got <= -5 && got > -11 || got <= -100);
            } else {
                CHECK.due("it", got, want);
                CHECK.holds("changes nothing", Arrays.equals(Scene.seen(x), before));
            }
            CHECK.due("fault() then", fault, this.fault.of(scene, a));
        }
    }
}
