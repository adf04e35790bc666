/** Calls that tests make again and again. */
final class Calls {
    static final int NULL = -11, CAST = -12, INDEX = -13, SIZE = -14;
    static final int BYTES = 0, SHORTS = 1, INTS = 2;
    /** The calls of the face, as the document lists them. */
    static final String[] NAMES = {"town", "ofOne", "wish", "measure", "law", "agenda", "vote", "decided", "sits", "ever",
        "often", "sway", "orders", "key", "lot", "fits", "safe", "sheet", "lose", "put", "cell", "copy", "tell", "swear",
        "as", "trace", "fault", "many"};

    private Calls() {
    }

    static int town(WonBySeats x, String text) {
        x.sheet(3, BYTES, text.length());
        for (int i = 0; i < text.length(); i++) {
            x.put(3, i, text.charAt(i));
        }
        return x.town(3, BYTES, 0, text.length());
    }

    static WonBySeats ofTown(String text) {
        WonBySeats x = new WonBySeats();
        town(x, text);
        return x;
    }

    static void row(WonBySeats x, int k, int... numbers) {
        x.sheet(k, INTS, numbers.length);
        for (int i = 0; i < numbers.length; i++) {
            x.put(k, i, numbers[i]);
        }
    }

    static int agenda(WonBySeats x, int... matters) {
        row(x, 2, matters);
        return x.agenda(2, INTS, 0, matters.length);
    }

    static int fits(WonBySeats x, int... seats) {
        row(x, 2, seats);
        return x.fits(2, INTS, 0);
    }

    static WonBySeats rules(WonBySeats x, int measure, int law) {
        x.measure(measure);
        x.law(law);
        return x;
    }

    /** The call whose name stands at a number; it takes of the other numbers what it needs. */
    static long answer(WonBySeats x, int which, int[] a) {
        switch (which) {
            case 0: return x.town(a[0], a[1], a[2], a[3]);
            case 1: return x.ofOne(a[0], a[1]);
            case 2: return x.wish(a[0], a[1], a[2] > 1);
            case 3: return x.measure(a[0]);
            case 4: return x.law(a[0]);
            case 5: return x.agenda(a[0], a[1], a[2], a[3]);
            case 6: return x.vote(a[0], a[1]);
            case 7: return x.decided(a[0]);
            case 8: return x.sits();
            case 9: return x.ever(a[0]);
            case 10: return x.often(a[0]);
            case 11: return x.sway(a[0], a[1]);
            case 12: return x.orders(a[0], a[1]);
            case 13: return x.key(a[0]);
            case 14: return x.lot(a[0]);
            case 15: return x.fits(a[0], a[1], a[2]);
            case 16: return x.safe();
            case 17: return x.sheet(a[0], a[1], a[2]);
            case 18: return x.lose(a[0]);
            case 19: return x.put(a[0], a[1], a[2]);
            case 20: return x.cell(a[0], a[1], a[2]);
            case 21: return x.copy(a[0], a[1], a[2], a[3], a[4]);
            case 22: return x.tell(a[0]);
            case 23: return x.swear(a[0]);
            case 24: return x.as(a[0], a[1]);
            case 25: return x.trace();
            case 26: return x.fault();
            default: return x.many(a[0]);
        }
    }
}
