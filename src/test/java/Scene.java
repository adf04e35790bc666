import java.util.Arrays;

/** States that a call can come upon, each made anew by the same calls, and all that can be seen of an object. */
enum Scene {
    /** Nothing at all; the latest fault was NULL. */
    EMPTY(1),
    /** No town; a sheet of each sort, one of them without a cell, one full, and one that has nothing. */
    SHEETS(2),
    /** The same sheets, and a town with rules, agenda and trace of its own. */
    TOWN(2);

    static final String TEXT = "m3;hyyn;fyny;cnny;hynn";
    /** Cells 0 on of sheet 2: matters, one of them twice, one that there is not on either side. */
    private static final int[] INTS = {2, 0, 1, 0, 3, -1, 1, 2};

    final int faultBefore;

    Scene(int faultBefore) {
        this.faultBefore = faultBefore;
    }

    boolean hasTown() {
        return this == TOWN;
    }

    int people() {
        return hasTown() ? 4 : 0;
    }

    int matters() {
        return hasTown() ? 3 : 0;
    }

    int[] agenda() {
        return hasTown() ? new int[] {2, 0} : new int[0];
    }

    /** How many cells a sheet has; -1: it has nothing. */
    int length(int k) {
        return this == EMPTY ? -1 : new int[] {TEXT.length(), 0, 80, -1}[k];
    }

    int sort(int k) {
        return this == EMPTY ? -1 : new int[] {0, 1, 2, -1}[k];
    }

    int cell(int k, int i) {
        if (k == 0) {
            return TEXT.charAt(i);
        }
        return i < INTS.length ? INTS[i] : i == 79 ? 1 : 0;
    }

    WonBySeats make() {
        WonBySeats x = new WonBySeats();
        if (this == EMPTY) {
            x.put(0, 0, 0);
            return x;
        }
        x.sheet(0, 0, TEXT.length());
        for (int i = 0; i < TEXT.length(); i++) {
            x.put(0, i, TEXT.charAt(i));
        }
        x.sheet(1, 1, 0);
        x.sheet(2, 2, 80);
        for (int i = 0; i < 80; i++) {
            if (cell(2, i) != 0) {
                x.put(2, i, cell(2, i));
            }
        }
        if (hasTown()) {
            x.town(0, 0, 0, TEXT.length());
            x.measure(3);
            x.law(2);
            x.agenda(2, 2, 0, 2);
            x.tell(2);
        }
        x.cell(0, 0, 2);
        return x;
    }

    /** What an object answers to everything but fault(), which these calls themselves change. */
    static long[] seen(WonBySeats x) {
        long[] seen = new long[400];
        int count = 0;
        seen[count++] = x.trace();
        for (int what = 0; what < 5; what++) {
            seen[count++] = x.many(what);
        }
        for (int one = 0; one < x.many(0); one++) {
            for (int what = -1; what < x.many(1); what++) {
                seen[count++] = x.ofOne(one, what);
            }
        }
        for (int q = 0; q < x.many(4); q++) {
            seen[count++] = x.vote(q, 0);
            seen[count++] = x.vote(q, 1);
        }
        seen[count++] = x.sits();
        for (int k = 0; k < 4; k++) {
            count = seeSheet(x, k, seen, count);
        }
        return Arrays.copyOf(seen, count);
    }

    private static int seeSheet(WonBySeats x, int k, long[] seen, int count) {
        int sort = 0;
        x.cell(k, 0, sort);
        while (sort < 2 && x.fault() == 2) {
            sort++;
            x.cell(k, 0, sort);
        }
        seen[count++] = sort;
        int length = 0;
        while (length <= 80 && x.cell(k, length, sort) != WonBySeats.LOST) {
            seen[count++] = x.cell(k, length, sort);
            length++;
        }
        seen[count++] = x.fault();
        return count;
    }
}
