import java.util.ArrayList;
import java.util.HashSet;
import java.util.List;
import java.util.Objects;
import java.util.regex.Pattern;

/**
 * The whole face once more: sheets are the machine's own rows and people objects of classes, so that here the machine
 * itself tells the faults; a town's votes are Model's.
 */
final class Whole {
    private static final Pattern[] TEXT_OF = new Pattern[7];

    static {
        for (int matters = 1; matters <= 6; matters++) {
            TEXT_OF[matters] = Pattern.compile("m" + matters + "(;[hfc][yn]{" + matters + "}){2,8}");
        }
    }

    private interface Sworn {
        int number();

        Whole town();

        default int swear() {
            town().leave(4);
            return number();
        }
    }

    private static class Honest implements Sworn {
        final Whole whole;
        final int number;

        Honest(Whole whole, int number) {
            this.whole = whole;
            this.number = number;
        }

        public int number() {
            return number;
        }

        public Whole town() {
            return whole;
        }

        int tell() {
            return tellAsHonest();
        }

        final int tellAsHonest() {
            whole.leave(1);
            int count = 0;
            for (boolean yes : whole.model.wish[number]) {
                count += yes ? 1 : 0;
            }
            return count;
        }
    }

    private static class Follower extends Honest {
        Follower(Whole whole, int number) {
            super(whole, number);
        }

        @Override
        int tell() {
            whole.leave(2);
            return super.tell() + 100;
        }
    }

    private static final class Contrary extends Follower {
        Contrary(Whole whole, int number) {
            super(whole, number);
        }

        @Override
        int tell() {
            whole.leave(3);
            return super.tell() + tellAsHonest();
        }

        @Override
        public int swear() {
            whole.leave(5);
            return 30;
        }
    }

    /** A refusal, as the document names it. */
    @SuppressWarnings("serial")
    private static final class Refused extends RuntimeException {
        final int answer;

        Refused(int answer) {
            super(null, null, false, false);
            this.answer = answer;
        }
    }

    private final Object[] rows = new Object[4];
    private Model model;
    private final List<Honest> people = new ArrayList<>();
    private int trace;
    private int fault;

    /** Of the call whose name stands in Calls.NAMES at a number. */
    long answer(int which, int[] a) {
        boolean namesFaults = List.of(0, 5, 15, 17, 19, 20, 21, 24).contains(which);
        boolean isLong = which == 14 || which == 20;
        int latest = 0;
        long answer;
        try {
            answer = which < 6 ? town(which, a) : which < 17 ? votes(which, a) : parts(which, a);
        } catch (Refused refused) {
            answer = isLong ? Long.MIN_VALUE : refused.answer;
        } catch (NullPointerException | ClassCastException | IndexOutOfBoundsException | NegativeArraySizeException e) {
            latest = e instanceof NullPointerException ? 1 : e instanceof ClassCastException ? 2
                : e instanceof IndexOutOfBoundsException ? 3 : 4;
            answer = isLong ? Long.MIN_VALUE : -10 - latest;
        }
        if (namesFaults) {
            fault = latest;
        }
        return answer;
    }

    private static void refuseUnless(boolean so, int answer) {
        if (!so) {
            throw new Refused(answer);
        }
    }

    private void needTown() {
        refuseUnless(model != null, WonBySeats.STATE);
    }

    private static void needSheet(int k) {
        refuseUnless(k >= 0 && k < 4, WonBySeats.UNKNOWN);
    }

    private static void needFrom(int v, int least, int most, int answer) {
        refuseUnless(v >= least && v <= most, answer);
    }

    private void needOne(int x) {
        needFrom(x, 0, people.size() - 1, WonBySeats.UNKNOWN);
    }

    private void needMatter(int m) {
        refuseUnless(model != null && m >= 0 && m < model.matters, WonBySeats.UNKNOWN);
    }

    private void leave(int number) {
        trace = trace * 31 + number;
    }

    /** Cells of a sheet, taken as a row of a sort; the casts and lengths are the machine's. */
    private int[] cells(int k, int sort, int i, int n) {
        needSheet(k);
        needFrom(sort, 0, 2, WonBySeats.OUTSIDE);
        int length = sort == 0 ? ((byte[]) rows[k]).length : sort == 1 ? ((short[]) rows[k]).length : ((int[]) rows[k]).length;
        if (n < 0) {
            throw new NegativeArraySizeException();
        }
        Objects.checkFromIndexSize(i, n, length);
        int[] cells = new int[n];
        for (int c = 0; c < n; c++) {
            cells[c] = java.lang.reflect.Array.getInt(rows[k], i + c);
        }
        return cells;
    }

    private long town(int which, int[] a) {
        switch (which) {
            case 0: return takeTown(cells(a[0], a[1], a[2], a[3]));
            case 1: {
                needOne(a[0]);
                needFrom(a[1], -1, model.matters - 1, WonBySeats.OUTSIDE);
                return a[1] == -1 ? "hfc".indexOf(model.kind[a[0]]) : model.wish[a[0]][a[1]] ? 1 : 0;
            }
            case 2: {
                needOne(a[0]);
                needMatter(a[1]);
                boolean was = model.wish[a[0]][a[1]];
                model.wish[a[0]][a[1]] = a[2] > 1;
                return was == a[2] > 1 ? 0 : 1;
            }
            case 3: {
                needFrom(a[0], 0, 3, WonBySeats.OUTSIDE);
                needTown();
                int was = model.measure;
                model.measure = a[0];
                return was;
            }
            case 4: {
                needFrom(a[0], 0, 2, WonBySeats.OUTSIDE);
                needTown();
                int was = model.law;
                model.law = a[0];
                return was;
            }
            default: return takeAgenda(cells(a[0], a[1], a[2], a[3]));
        }
    }

    private int takeTown(int[] codes) {
        StringBuilder text = new StringBuilder();
        for (int p = 0; p <= codes.length; p++) {
            if (!canGoOn(text.toString())) {
                return -100 - (p - 1);
            }
            if (p < codes.length) {
                text.append(codes[p] > 0 && codes[p] < 128 ? (char) codes[p] : '?');
            }
        }
        if (!isText(text.toString())) {
            return -100 - codes.length;
        }
        model = new Model(text.toString());
        people.clear();
        for (int x = 0; x < model.people; x++) {
            char kind = model.kind[x];
            people.add(kind == 'h' ? new Honest(this, x) : kind == 'f' ? new Follower(this, x) : new Contrary(this, x));
        }
        return model.people;
    }

    private static boolean isText(String text) {
        for (int matters = 1; matters <= 6; matters++) {
            if (TEXT_OF[matters].matcher(text).matches()) {
                return true;
            }
        }
        return false;
    }

    /** Whether some text begins so. */
    private static boolean canGoOn(String begin) {
        for (int matters = 1; matters <= 6; matters++) {
            java.util.regex.Matcher m = TEXT_OF[matters].matcher(begin);
            if (m.matches() || m.hitEnd()) {
                return true;
            }
        }
        return false;
    }

    private int takeAgenda(int[] row) {
        needTown();
        needFrom(row.length, 1, 6, WonBySeats.OUTSIDE);
        List<Integer> agenda = new ArrayList<>();
        for (int m : row) {
            needMatter(m);
            agenda.add(m);
        }
        refuseUnless(new HashSet<>(agenda).size() == row.length, WonBySeats.OUTSIDE);
        model.agenda = agenda;
        return row.length;
    }

    private long votes(int which, int[] a) {
        switch (which) {
            case 6: {
                refuseUnless(model != null && a[0] >= 0 && a[0] < model.agenda.size(), WonBySeats.UNKNOWN);
                needFrom(a[1], 0, 4, WonBySeats.OUTSIDE);
                Model.Vote v = model.run().get(a[0]);
                return new int[] {v.matter, v.sits, v.yes, v.decided, v.seats}[a[1]];
            }
            case 7: {
                needMatter(a[0]);
                return model.decided(a[0]);
            }
            case 8: {
                needTown();
                return model.sits();
            }
            case 9: {
                needFrom(a[0], 0, 1, WonBySeats.OUTSIDE);
                needTown();
                return model.ever()[a[0]];
            }
            case 10: {
                needMatter(a[0]);
                return model.ever()[2 + a[0]];
            }
            case 11: {
                needFrom(Integer.bitCount(a[0]), 1, 3, WonBySeats.OUTSIDE);
                refuseUnless(a[0] >>> people.size() == 0, WonBySeats.OUTSIDE);
                needFrom(a[1], 0, 1, WonBySeats.OUTSIDE);
                return model.sway(a[0], a[1]);
            }
            default: return searches(which, a);
        }
    }

    private long searches(int which, int[] a) {
        switch (which) {
            case 12: {
                needMatter(a[0]);
                refuseUnless(model.agenda.contains(a[0]), WonBySeats.UNKNOWN);
                needFrom(a[1], -1, model.agenda.size() - 1, WonBySeats.UNKNOWN);
                List<List<Integer>> good = model.orders(a[0]);
                return a[1] == -1 ? good.size() : good.isEmpty() ? WonBySeats.NONE : good.get(0).get(a[1]);
            }
            case 13: {
                needFrom(a[0], 0, 1, WonBySeats.OUTSIDE);
                needTown();
                return model.key()[a[0]];
            }
            case 14: {
                needFrom(a[0], 0, 1, WonBySeats.OUTSIDE);
                needTown();
                return model.lot()[a[0]];
            }
            case 15: {
                int[] told = cells(a[0], a[1], a[2], model == null ? 0 : model.agenda.size());
                needTown();
                return model.fits(told);
            }
            default: {
                needTown();
                return model.safe();
            }
        }
    }

    private long parts(int which, int[] a) {
        switch (which) {
            case 17: {
                needSheet(a[0]);
                refuseUnless(a[1] >= 0 && a[1] <= 2 && a[2] <= 80, WonBySeats.OUTSIDE);
                rows[a[0]] = a[1] == 0 ? new byte[a[2]] : a[1] == 1 ? new short[a[2]] : new int[a[2]];
                return 1;
            }
            case 18: {
                needSheet(a[0]);
                int had = rows[a[0]] == null ? 0 : 1;
                rows[a[0]] = null;
                return had;
            }
            case 19: {
                needSheet(a[0]);
                store(rows[a[0]], a[1], a[2]);
                return 1;
            }
            case 20: return cells(a[0], a[2], a[1], 1)[0];
            case 21: {
                needSheet(a[0]);
                needSheet(a[2]);
                return copied(rows[a[0]], a[1], rows[a[2]], a[3], a[4]);
            }
            default: return bodies(which, a);
        }
    }

    private static void store(Object row, int i, int v) {
        if (row instanceof byte[] bytes) {
            bytes[i] = (byte) v;
        } else if (row instanceof short[] shorts) {
            shorts[i] = (short) v;
        } else {
            ((int[]) row)[i] = v;
        }
    }

    /** The machine tells unlike rows by another name. */
    private static int copied(Object from, int i, Object to, int j, int n) {
        try {
            System.arraycopy(from, i, to, j, n);
        } catch (ArrayStoreException unlike) {
            throw new ClassCastException();
        }
        return n;
    }

    private long bodies(int which, int[] a) {
        switch (which) {
            case 22: {
                needOne(a[0]);
                return people.get(a[0]).tell();
            }
            case 23: {
                needOne(a[0]);
                return people.get(a[0]).swear();
            }
            case 24: {
                needOne(a[0]);
                needFrom(a[1], 0, 2, WonBySeats.OUTSIDE);
                Honest taken = a[1] == 0 ? people.get(a[0]) : a[1] == 1 ? (Follower) people.get(a[0]) : (Contrary) people.get(a[0]);
                return taken.number == a[0] ? 1 : 0;
            }
            case 25: return trace;
            case 26: return fault;
            default: {
                needFrom(a[0], 0, 4, WonBySeats.OUTSIDE);
                return model == null ? 0
                    : new int[] {model.people, model.matters, model.measure, model.law, model.agenda.size()}[a[0]];
            }
        }
    }

    int peopleNow() {
        return people.size();
    }

    int mattersNow() {
        return model == null ? 0 : model.matters;
    }

    int itemsNow() {
        return model == null ? 0 : model.agenda.size();
    }

    /** Which sort a sheet has; 0, if it has nothing. */
    int sortNow(int k) {
        return rows[k] instanceof short[] ? 1 : rows[k] instanceof int[] ? 2 : 0;
    }

    int lengthNow(int k) {
        return rows[k] == null ? 0 : java.lang.reflect.Array.getLength(rows[k]);
    }
}
