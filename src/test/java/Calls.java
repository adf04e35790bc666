/** Calls that tests make again and again. */
final class Calls {
    static final int NULL = -11, CAST = -12, INDEX = -13, SIZE = -14;
    static final int BYTES = 0, SHORTS = 1, INTS = 2;

    private Calls() {
    }

    static int town(WonBySeats x, String text) {
        x.sheet(3, BYTES, text.length());
        for (int i = 0; i < text.length(); i++) {
            x.put(3, i, text.charAt(i));
        }
        return x.town(3, BYTES, 0, text.length());
    }

    static WonBySeats ofTown(String text) {
        WonBySeats x = new WonBySeats();
        town(x, text);
        return x;
    }

    static void row(WonBySeats x, int k, int... numbers) {
        x.sheet(k, INTS, numbers.length);
        for (int i = 0; i < numbers.length; i++) {
            x.put(k, i, numbers[i]);
        }
    }

    static int agenda(WonBySeats x, int... matters) {
        row(x, 2, matters);
        return x.agenda(2, INTS, 0, matters.length);
    }

    static int fits(WonBySeats x, int... seats) {
        row(x, 2, seats);
        return x.fits(2, INTS, 0);
    }

    static WonBySeats rules(WonBySeats x, int measure, int law) {
        x.measure(measure);
        x.law(law);
        return x;
    }
}
