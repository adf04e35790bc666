import java.util.Arrays;
import java.util.Random;

/** Long rows of calls of every kind, good ones and wrong ones mixed, each answer beside the second writing's. */
public final class WholeTest {
    private static final int OBJECTS = 250, MOST_CALLS = 512;
    private static final int[] ODD = {Integer.MIN_VALUE, -128, -3, -2, -1, 4, 5, 7, 8, 9, 79, 80, 81, 128, 300, 40_000,
        Integer.MAX_VALUE};
    private static final int TOWN = 0, AGENDA = 5, SWAY = 11, FITS = 15, SHEET = 17, PUT = 19, FAULT = 26;
    private static final Check CHECK = new Check("WholeTest");

    private final Random random;
    private final WonBySeats real = new WonBySeats();
    private final Whole whole = new Whole();
    private int calls;

    private WholeTest(int seed) {
        random = new Random(seed);
    }

    public static void main(String[] args) {
        for (int seed = 0; seed < OBJECTS; seed++) {
            CHECK.at("seed " + seed);
            new WholeTest(seed).use();
        }
        CHECK.finish();
    }

    private void use() {
        // some objects are asked without a town for a while
        if (random.nextInt(4) != 0) {
            tellTown();
        }
        while (calls < MOST_CALLS) {
            int move = random.nextInt(40);
            if (move == 0) {
                tellTown();
            } else if (move < 4) {
                tellRow(AGENDA);
            } else if (move < 6) {
                tellRow(FITS);
            } else {
                anyCall();
            }
        }
    }

    private long ask(int which, int... told) {
        if (calls >= MOST_CALLS) {
            return 0;
        }
        calls++;
        int[] a = Arrays.copyOf(told, 5);
        long due = whole.answer(which, a);
        CHECK.due("call " + calls + ", " + Calls.NAMES[which] + Arrays.toString(a), Calls.answer(real, which, a), due);
        return due;
    }

    /** A number that is mostly from 0 on below a bound, at times one beside it or far off. */
    private int about(int bound) {
        int luck = random.nextInt(20);
        return luck == 0 ? ODD[random.nextInt(ODD.length)] : luck == 1 ? bound : random.nextInt(Math.max(bound, 1));
    }

    private void tellTown() {
        int matters = 1 + random.nextInt(6);
        int people = 2 + random.nextInt(random.nextInt(9) == 0 ? 8 : 7);
        StringBuilder text = new StringBuilder("m").append(matters);
        while (people > 0) {
            text.append(';').append("hfc".charAt(random.nextInt(3)));
            for (int m = 0; m < matters; m++) {
                text.append(random.nextInt(3) == 0 ? 'n' : 'y');
            }
            people--;
        }
        if (random.nextInt(4) == 0) {
            text.setCharAt(random.nextInt(text.length()), "m1;hfcyn?".charAt(random.nextInt(9)));
        }
        int k = random.nextInt(4);
        int sort = random.nextInt(3);
        int from = random.nextInt(4);
        ask(SHEET, k, sort, from + text.length() + random.nextInt(3));
        for (int i = 0; i < text.length(); i++) {
            ask(PUT, k, from + i, text.charAt(i));
        }
        ask(TOWN, k, sort, from, text.length() - (random.nextInt(6) == 0 ? random.nextInt(5) : 0));
        ask(FAULT);
    }

    /** An agenda, or seats, in a row of their own. */
    private void tellRow(int which) {
        int n = which == FITS ? whole.itemsNow() : Math.min(about(whole.mattersNow() + 1), 9);
        int k = random.nextInt(4);
        int sort = random.nextInt(3);
        int turn = random.nextInt(6);
        ask(SHEET, k, sort, Math.max(n, 0));
        for (int q = 0; q < n; q++) {
            boolean good = random.nextInt(12) != 0 && whole.itemsNow() > 0;
            int matter = (q + turn) % Math.max(whole.mattersNow(), 1);
            int seats = good && which == FITS ? (int) ask(6, q, 4) : 0;
            ask(PUT, k, q, which == FITS ? seats : good ? matter : about(whole.mattersNow()));
        }
        ask(which, k, sort, 0, n);
        ask(FAULT);
    }

    private void anyCall() {
        int which = random.nextInt(Calls.NAMES.length);
        int k = about(4);
        int other = about(4);
        int length = k >= 0 && k < 4 ? whole.lengthNow(k) : 0;
        int sort = k >= 0 && k < 4 && random.nextInt(4) != 0 ? whole.sortNow(k) : about(3);
        int one = about(whole.peopleNow());
        int matter = about(whole.mattersNow());
        switch (which) {
            case TOWN: case AGENDA: ask(which, k, sort, about(length), about(5)); break;
            case 1: ask(which, one, random.nextInt(4) == 0 ? -1 : matter); break;
            case 2: ask(which, one, matter, about(4)); break;
            case 6: ask(which, about(whole.itemsNow()), about(5)); break;
            case SWAY: ask(which, someSet(), about(2)); break;
            case 12: ask(which, matter, about(whole.itemsNow() + 1) - 1); break;
            case FITS: ask(which, k, sort, about(length)); break;
            case SHEET: ask(which, k, about(3), about(20)); break;
            // what is lost or made anew too often holds nothing that other calls could find
            case 18: ask(which, random.nextInt(3) == 0 ? k : -1); break;
            case PUT: ask(which, k, about(length), random.nextInt(3) == 0 ? about(4) : random.nextInt()); break;
            case 20: ask(which, k, about(length), sort); break;
            case 21: ask(which, k, about(length), other, about(length), about(6)); break;
            case 24: ask(which, one, about(3)); break;
            case 3: ask(which, about(4)); break;
            case 4: ask(which, about(3)); break;
            case 9: case 13: case 14: ask(which, about(2)); break;
            case 22: case 23: ask(which, one); break;
            case 27: ask(which, about(5)); break;
            default: ask(which, matter);
        }
        if (random.nextInt(3) == 0) {
            ask(FAULT);
        }
    }

    /** The model tries all sayings, so long agendas are swayed by few. */
    private int someSet() {
        if (random.nextInt(12) == 0) {
            return ODD[random.nextInt(ODD.length)];
        }
        int set = 0;
        for (int member = random.nextInt(whole.itemsNow() > 4 ? 3 : 4); member > 0; member--) {
            set |= 1 << random.nextInt(Math.max(whole.peopleNow(), 1));
        }
        return set;
    }
}
