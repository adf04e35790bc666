import java.util.Random;

/** Any arguments in any state: no call throws, and the same calls give the same answers. */
public final class AnyCallTest {
    private static final int[] ODD = {Integer.MIN_VALUE, Integer.MIN_VALUE + 1, -81, -2, -1, 6, 7, 8, 9, 79, 80, 81,
        255, 256, Integer.MAX_VALUE - 1, Integer.MAX_VALUE};
    private static final String[] TOWNS = {"m1;hy;cn", "m6;hyynnyy;fynynyn;cnnyyyn;hyynynn;cyyyyyy;fnnnynn;hnynyny;cynnyyn",
        "m3;hyyy;hyyn;hynn", "m1;hy;", "m2;cyy;cyy;cyn;cny;fyy"};

    public static void main(String[] args) {
        Check check = new Check("AnyCallTest");
        for (int seed = 0; seed < 300; seed++) {
            check.at("seed " + seed);
            check.due("all answers, twice", answersOf(seed, check), answersOf(seed, check));
        }
        check.finish();
    }

    private static long answersOf(int seed, Check check) {
        Random random = new Random(seed);
        WonBySeats x = new WonBySeats();
        long sum = 0;
        if (seed % 8 != 0) {
            Calls.town(x, TOWNS[random.nextInt(TOWNS.length)]);
        }
        for (int call = 0; call < 400; call++) {
            int which = random.nextInt(28);
            int[] a = new int[5];
            for (int i = 0; i < 5; i++) {
                a[i] = random.nextInt(5) == 0 ? ODD[random.nextInt(ODD.length)] : random.nextInt(4);
            }
            try {
                sum = sum * 1_000_003 + answer(x, which, a);
            } catch (RuntimeException e) {
                check.holds("call " + which + " of " + java.util.Arrays.toString(a) + " threw " + e, false);
            }
        }
        return sum;
    }

    private static long answer(WonBySeats x, int which, int[] a) {
        switch (which) {
            case 0: return x.town(a[0], a[1], a[2], a[3]);
            case 1: return x.ofOne(a[0], a[1]);
            case 2: return x.wish(a[0], a[1], a[2] > 1);
            case 3: return x.measure(a[0]);
            case 4: return x.law(a[0]);
            case 5: return x.agenda(a[0], a[1], a[2], a[3]);
            case 6: return x.vote(a[0], a[1]);
            case 7: return x.decided(a[0]);
            case 8: return x.sits();
            case 9: return x.ever(a[0]);
            case 10: return x.often(a[0]);
            case 11: return x.sway(a[0] + 4 * a[1], a[2]);
            case 12: return x.orders(a[0], a[1] - 1);
            case 13: return x.key(a[0]);
            case 14: return x.lot(a[0]);
            case 15: return x.fits(a[0], a[1], a[2]);
            case 16: return x.safe();
            case 17: return x.sheet(a[0], a[1], a[2]);
            case 18: return x.lose(a[0]);
            case 19: return x.put(a[0], a[1], a[2]);
            case 20: return x.cell(a[0], a[1], a[2]);
            case 21: return x.copy(a[0], a[1], a[2], a[3], a[4]);
            case 22: return x.tell(a[0]);
            case 23: return x.swear(a[0]);
            case 24: return x.as(a[0], a[1]);
            case 25: return x.trace();
            case 26: return x.fault();
            default: return x.many(a[0]);
        }
    }
}
