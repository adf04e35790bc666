import java.util.Arrays;
import java.util.regex.Matcher;
import java.util.regex.Pattern;

/** Section 1 and promise 2: where a TEXT begins, goes on and ends, and what one that is taken makes anew. */
public final class TextEdgeTest {
    private static final Check CHECK = new Check("TextEdgeTest");
    private static final Pattern TEXT = Pattern.compile("m1(;[hfc][yn]){2,8}|m2(;[hfc][yn]{2}){2,8}"
        + "|m3(;[hfc][yn]{3}){2,8}|m4(;[hfc][yn]{4}){2,8}|m5(;[hfc][yn]{5}){2,8}|m6(;[hfc][yn]{6}){2,8}");
    private static final String[] SOME = {"m1;hy;fn", "m2;cyn;hny;fyy", "m6;hyyyyyy;fnnnnnn",
        "m1;hy;fn;cy;hy;fn;cy;hy;fn", "m3;hyyn;fyny;cnny;hynn", "m6" + ";cynynyn".repeat(8)};

    public static void main(String[] args) {
        digits();
        people();
        letters();
        endsTooSoon();
        ninthOne();
        everyCodeAtEveryPlace();
        placeIsOfTheText();
        whatStandsBehind();
        cutOrNot();
        wrongTextChangesNothing();
        takenMakesAllAnew();
        fullSheet();
        CHECK.finish();
    }

    /** The document's words: the first code with which no TEXT goes on; how many, if it just ends too soon. */
    private static int dueOf(String text, int people) {
        for (int p = 0; p < text.length(); p++) {
            Matcher m = TEXT.matcher(text.substring(0, p + 1));
            if (!m.matches() && !m.hitEnd()) {
                return -100 - p;
            }
        }
        return TEXT.matcher(text).matches() ? people : -100 - text.length();
    }

    private static int peopleOf(String text) {
        return (int) text.chars().filter(c -> c == ';').count();
    }

    private static void dueText(String text, int want) {
        WonBySeats x = new WonBySeats();
        CHECK.due("town by " + text, Calls.town(x, text), want);
        CHECK.due("people by " + text, x.many(0), Math.max(want, 0));
        CHECK.due("fault() by " + text, x.fault(), 0);
    }

    private static void digits() {
        CHECK.at("m and a digit 1 .. 6");
        for (char digit = '0' - 1; digit <= '9' + 1; digit++) {
            int matters = digit - '0';
            String one = ";h" + "y".repeat(Math.max(matters, 0));
            dueText("m" + digit + one + one, matters >= 1 && matters <= 6 ? 2 : -101);
        }
        dueText("m10;hy;hy", -102);
        dueText("m06;hyyyyyy;hyyyyyy", -101);
        WonBySeats x = new WonBySeats();
        for (int matters = 1; matters <= 6; matters++) {
            String one = ";h" + "y".repeat(matters);
            Calls.town(x, "m" + matters + one + one);
            CHECK.due("matters by " + matters, x.many(1), matters);
        }
    }

    private static void people() {
        CHECK.at("then 2 to 8 PEOPLE");
        dueText("m1", -102);
        dueText("m1;hy", -105);
        for (int people = 2; people <= 8; people++) {
            dueText("m1" + ";hy".repeat(people), people);
        }
        dueText("m1" + ";hy".repeat(9), -126);
    }

    private static void letters() {
        CHECK.at("; and a letter, and as many signs as there are MATTERS, y or n");
        WonBySeats x = Calls.ofTown("m2;hyn;fny;cyy");
        int[][] want = {{0, 1, 0}, {1, 0, 1}, {2, 1, 1}};
        for (int one = 0; one < 3; one++) {
            for (int what = -1; what < 2; what++) {
                CHECK.due("ofOne(" + one + ", " + what + ")", x.ofOne(one, what), want[one][what + 1]);
            }
        }
        dueText("m2;hy;hyy", -105);
        dueText("m2;hyyy;hyy", -106);
        dueText("m2;yyy;hyy", -103);
        dueText("m2;;hyy", -103);
        dueText("m2:hyy;hyy", -102);
        dueText("m2;hyY;hyy", -105);
        dueText("m2;Hyy;hyy", -103);
        dueText(" m2;hyy;hyy", -100);
        dueText("m2;hyy;hyy ", -110);
    }

    private static void endsTooSoon() {
        CHECK.at("how many codes there are, if it just ends too soon");
        for (String text : SOME) {
            int one = text.charAt(1) - '0' + 2;
            for (int n = 0; n <= text.length(); n++) {
                boolean whole = n >= 2 + 2 * one && (n - 2) % one == 0;
                dueText(text.substring(0, n), whole ? (n - 2) / one : -100 - n);
            }
        }
    }

    private static void ninthOne() {
        CHECK.at("the ; of a ninth ONE");
        for (int matters = 1; matters <= 6; matters++) {
            String eight = "m" + matters + (";f" + "n".repeat(matters)).repeat(8);
            int end = 2 + 8 * (2 + matters);
            dueText(eight, 8);
            dueText(eight + ";", -100 - end);
            dueText(eight + ";h" + "y".repeat(matters), -100 - end);
            dueText(eight + "y", -100 - end);
            dueText(eight.substring(0, end - 1) + ";;", -100 - (end - 1));
        }
    }

    private static int[] codes() {
        int[] around = {109, 104, 102, 99, 121, 110, 59, 48, 54, 57};
        int[] codes = new int[3 * around.length + 5];
        int count = 0;
        for (int code : around) {
            codes[count++] = code - 1;
            codes[count++] = code;
            codes[count++] = code + 1;
        }
        for (int odd : new int[] {-128, -1, 0, 10, 127}) {
            codes[count++] = odd;
        }
        return codes;
    }

    private static void everyCodeAtEveryPlace() {
        CHECK.at("the place (from 0 on) of the first code with which no TEXT goes on");
        for (String text : SOME) {
            for (int p = 0; p < text.length(); p++) {
                WonBySeats x = Calls.ofTown(text);
                for (int code : codes()) {
                    // a code below 0 is no sign of a text; any other that is none stands for it here
                    char sign = code < 0 ? '?' : (char) code;
                    String other = text.substring(0, p) + sign + text.substring(p + 1);
                    x.put(3, p, code);
                    int want = dueOf(other, peopleOf(other));
                    CHECK.due("town by " + other + " with " + code, x.town(3, 0, 0, other.length()), want);
                }
            }
        }
    }

    private static void placeIsOfTheText() {
        CHECK.at("n cells of a SHEET from i on");
        WonBySeats x = new WonBySeats();
        String row = "yyym1;hy;hn;hx";
        x.sheet(1, 1, row.length());
        for (int i = 0; i < row.length(); i++) {
            x.put(1, i, row.charAt(i));
        }
        CHECK.due("ahead of it", x.town(1, 1, 2, 9), -100);
        CHECK.due("the text alone", x.town(1, 1, 3, 8), 2);
        CHECK.due("one code less", x.town(1, 1, 3, 7), -107);
        CHECK.due("one code more", x.town(1, 1, 3, 9), -109);
        CHECK.due("all of it", x.town(1, 1, 3, 11), -110);
        CHECK.due("behind its m", x.town(1, 1, 4, 7), -100);
        CHECK.due("no cells in the middle", x.town(1, 1, 3, 0), -100);
        CHECK.due("no cells at the end", x.town(1, 1, row.length(), 0), -100);
        CHECK.due("no cells behind the end", x.town(1, 1, row.length() + 1, 0), Calls.INDEX);
        x.sheet(0, 0, 0);
        CHECK.due("no cells of none", x.town(0, 0, 0, 0), -100);
    }

    /** What stands behind a text could be taken for one more wish of its last one. */
    private static void whatStandsBehind() {
        CHECK.at("n cells of a SHEET, and none behind them");
        for (int matters = 1; matters <= 6; matters++) {
            for (char behind : new char[] {'y', 'n', ';', 'x'}) {
                String text = "m" + matters + ";h" + "n".repeat(matters) + ";c" + "n".repeat(matters);
                WonBySeats x = new WonBySeats();
                x.sheet(0, 0, text.length() + 1);
                for (int i = 0; i < text.length(); i++) {
                    x.put(0, i, text.charAt(i));
                }
                x.put(0, text.length(), behind);
                CHECK.due(text + " ahead of " + behind, x.town(0, 0, 0, text.length()), 2);
                CHECK.due("its matters", x.many(1), matters);
                CHECK.due("its wishes of yes", x.tell(1), 100);
                CHECK.due("with it", x.town(0, 0, 0, text.length() + 1),
                    -100 - text.length() - (behind == ';' ? 1 : 0));
            }
        }
    }

    private static void cutOrNot() {
        CHECK.at("what comes to a cell of it is cut to its SORT");
        String text = "m1;hy;hn";
        int[][] added = {{0, 256, 2}, {0, -512, 2}, {1, 256, -100}, {1, 65536, 2}, {2, 256, -100}, {2, 65536, -100}};
        for (int[] way : added) {
            WonBySeats x = new WonBySeats();
            x.sheet(2, way[0], text.length());
            for (int i = 0; i < text.length(); i++) {
                x.put(2, i, text.charAt(i) + way[1]);
            }
            CHECK.due("sort " + way[0] + " and " + way[1], x.town(2, way[0], 0, text.length()), way[2]);
        }
        WonBySeats x = Calls.ofTown(text);
        Calls.row(x, 0, 109, 49 + (1 << 16), 59, 104, 121, 59, 104, 110);
        CHECK.due("a digit beyond", x.town(0, 2, 0, 8), -101);
        Calls.row(x, 0, 109, 49, 59, 104, 121, 59, 104, 110 - 256);
        CHECK.due("a sign beyond", x.town(0, 2, 0, 8), -107);
    }

    private static void wrongTextChangesNothing() {
        CHECK.at("a TEXT that is taken (one that is not changes nothing)");
        long[] before = Scene.seen(Scene.TOWN.make());
        for (int n = 0; n < Scene.TEXT.length(); n++) {
            WonBySeats x = Scene.TOWN.make();
            int got = x.town(0, 0, 0, n);
            if (got < 0) {
                CHECK.due("town of " + n, got, -100 - n);
                CHECK.due("fault() then", x.fault(), 0);
                CHECK.holds("nothing is changed by " + n, Arrays.equals(Scene.seen(x), before));
            }
        }
    }

    private static void takenMakesAllAnew() {
        CHECK.at("makes all anew: MEASURE 0, LAW 0, the AGENDA is all MATTERS by their numbers");
        for (String text : SOME) {
            WonBySeats x = Calls.rules(Calls.ofTown("m6" + ";cynynyn".repeat(8)), 3, 2);
            Calls.agenda(x, 5, 1);
            x.wish(0, 0, false);
            int people = Calls.town(x, text);
            int matters = text.charAt(1) - '0';
            CHECK.at("makes all anew: " + text);
            long[] anew = Scene.seen(Calls.ofTown(text));
            x.lose(2);
            CHECK.holds("as if there had been no other", Arrays.equals(Scene.seen(x), anew));
            CHECK.due("people", people, peopleOf(text));
            CHECK.due("measure", x.many(2), 0);
            CHECK.due("law", x.many(3), 0);
            CHECK.due("matters of the agenda", x.many(4), matters);
            for (int q = 0; q < matters; q++) {
                CHECK.due("vote(" + q + ", 0)", x.vote(q, 0), q);
            }
            CHECK.due("no more people", x.ofOne(people, -1), WonBySeats.UNKNOWN);
            CHECK.due("no more matters", x.decided(matters), WonBySeats.UNKNOWN);
        }
    }

    private static void fullSheet() {
        CHECK.at("a row of 0 .. 80 numbers, a TEXT in its last cells");
        String text = "m6" + ";cynynyn".repeat(8);
        WonBySeats x = new WonBySeats();
        x.sheet(0, 2, 80);
        for (int i = 0; i < text.length(); i++) {
            x.put(0, 80 - text.length() + i, text.charAt(i));
        }
        CHECK.due("the longest text", x.town(0, 2, 80 - text.length(), text.length()), 8);
        CHECK.due("one cell too far", x.town(0, 2, 80 - text.length() + 1, text.length()), Calls.INDEX);
        CHECK.due("the whole sheet", x.town(0, 2, 0, 80), -100);
    }
}
