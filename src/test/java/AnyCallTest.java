import java.util.Random;

/** Any arguments in any state: no call throws, and the same calls give the same answers. */
public final class AnyCallTest {
    private static final int[] ODD = {Integer.MIN_VALUE, Integer.MIN_VALUE + 1, -81, -2, -1, 6, 7, 8, 9, 79, 80, 81,
        255, 256, Integer.MAX_VALUE - 1, Integer.MAX_VALUE};
    private static final String[] TOWNS = {"m1;hy;cn", "m6;hyynnyy;fynynyn;cnnyyyn;hyynynn;cyyyyyy;fnnnynn;hnynyny;cynnyyn",
        "m3;hyyy;hyyn;hynn", "m1;hy;", "m2;cyy;cyy;cyn;cny;fyy"};

    public static void main(String[] args) {
        Check check = new Check("AnyCallTest");
        for (int seed = 0; seed < 300; seed++) {
            check.at("seed " + seed);
            check.due("all answers, twice", answersOf(seed, check), answersOf(seed, check));
        }
        check.finish();
    }

    private static long answersOf(int seed, Check check) {
        Random random = new Random(seed);
        WonBySeats x = new WonBySeats();
        long sum = 0;
        if (seed % 8 != 0) {
            Calls.town(x, TOWNS[random.nextInt(TOWNS.length)]);
        }
        for (int call = 0; call < 400; call++) {
            int which = random.nextInt(Calls.NAMES.length);
            int[] a = new int[5];
            for (int i = 0; i < 5; i++) {
                a[i] = random.nextInt(5) == 0 ? ODD[random.nextInt(ODD.length)] : random.nextInt(4);
            }
            // most sets of people, and the -1 that orders knows, are else seldom come to
            a[0] += which == 11 ? 4 * a[2] : 0;
            a[1] -= which == 12 ? 1 : 0;
            try {
                sum = sum * 1_000_003 + Calls.answer(x, which, a);
            } catch (RuntimeException e) {
                check.holds("call " + which + " of " + java.util.Arrays.toString(a) + " threw " + e, false);
            }
        }
        return sum;
    }
}
