import java.io.IOException;
import java.lang.reflect.Constructor;
import java.lang.reflect.Field;
import java.lang.reflect.Method;
import java.lang.reflect.Modifier;
import java.nio.file.Files;
import java.nio.file.Path;
import java.util.Arrays;
import java.util.Set;
import java.util.TreeSet;
import java.util.regex.Matcher;
import java.util.regex.Pattern;

/** The public face, and what of the language's rules can be read off the source. */
public final class FaceTest {
    private static final Check CHECK = new Check("FaceTest");
    private static final String[] METHODS = {
        "int town(int,int,int,int)", "int ofOne(int,int)", "int wish(int,int,boolean)", "int measure(int)",
        "int law(int)", "int agenda(int,int,int,int)", "int vote(int,int)", "int decided(int)", "int sits()",
        "int ever(int)", "int often(int)", "int sway(int,int)", "int orders(int,int)", "int key(int)",
        "long lot(int)", "int fits(int,int,int)", "int safe()", "int sheet(int,int,int)", "int lose(int)",
        "int put(int,int,int)", "long cell(int,int,int)", "int copy(int,int,int,int,int)", "int tell(int)",
        "int swear(int)", "int as(int,int)", "int trace()", "int fault()", "int many(int)"};
    private static final String[] CONSTANTS = {"UNKNOWN", "OUTSIDE", "STATE", "FULL", "EVEN", "SHUT", "NONE", "LOST"};
    private static final String[] RULED_OUT = {"throw", "throws", "try", "catch", "finally", "synchronized", "assert",
        "protected", "volatile", "native", "Object", "System.out", "->", "::", "Exact", "@"};

    public static void main(String[] args) throws Exception {
        constants();
        members();
        source();
        room();
        CHECK.finish();
    }

    private static void constants() throws Exception {
        CHECK.at("constants");
        long[] want = {-1, -2, -3, -4, -5, -6, -9, Long.MIN_VALUE};
        for (int i = 0; i < CONSTANTS.length; i++) {
            CHECK.due(CONSTANTS[i], WonBySeats.class.getField(CONSTANTS[i]).getLong(null), want[i]);
        }
    }

    private static void members() {
        CHECK.at("members");
        CHECK.holds("public and final", WonBySeats.class.getModifiers() == (Modifier.PUBLIC | Modifier.FINAL));
        Set<String> open = new TreeSet<>();
        Set<String> shut = new TreeSet<>();
        for (Method m : WonBySeats.class.getDeclaredMethods()) {
            String sign = m.getReturnType() + " " + m.getName() + Arrays.toString(m.getParameterTypes());
            sign = sign.replace('[', '(').replace(']', ')').replace(", ", ",");
            (Modifier.isPrivate(m.getModifiers()) ? shut : open).add(Modifier.isPrivate(m.getModifiers()) ? m.getName() : sign);
        }
        CHECK.holds("methods are " + open, open.equals(new TreeSet<>(Arrays.asList(METHODS))));
        for (String sign : METHODS) {
            CHECK.holds("no private " + sign, !shut.contains(sign.substring(sign.indexOf(' ') + 1, sign.indexOf('('))));
        }
        for (Field f : WonBySeats.class.getDeclaredFields()) {
            boolean told = Arrays.asList(CONSTANTS).contains(f.getName());
            CHECK.holds(f.getName() + " is " + (told ? "public" : "private"),
                told ? Modifier.isPublic(f.getModifiers()) : Modifier.isPrivate(f.getModifiers()));
        }
        Constructor<?>[] makers = WonBySeats.class.getDeclaredConstructors();
        CHECK.holds("one constructor, of nothing", makers.length == 1 && makers[0].getParameterCount() == 0);
        int classes = WonBySeats.class.getDeclaredClasses().length;
        CHECK.holds("no more than twelve classes", classes <= 11);
        for (Class<?> c : WonBySeats.class.getDeclaredClasses()) {
            CHECK.holds(c + " is static", Modifier.isStatic(c.getModifiers()) && !Modifier.isPublic(c.getModifiers()));
        }
    }

    private static void source() throws IOException {
        CHECK.at("source");
        String text = Files.readString(Path.of("src/main/java/WonBySeats.java"));
        String code = text.replaceAll("(?s)/\\*.*?\\*/", "").replaceAll("//[^\n]*", "");
        for (String word : RULED_OUT) {
            String edges = Character.isLetter(word.charAt(0)) ? "\\b" : "";
            Matcher m = Pattern.compile(edges + Pattern.quote(word) + (word.equals("Exact") ? "" : edges)).matcher(code);
            CHECK.holds("no " + word, !m.find());
        }
        Matcher imports = Pattern.compile("import ([^;]*);").matcher(code);
        while (imports.find()) {
            CHECK.holds("import of " + imports.group(1), imports.group(1).equals("java.util.Arrays"));
        }
        Matcher statics = Pattern.compile("static (?!final|int |long |boolean )").matcher(code);
        CHECK.holds("nothing static but constants, classes and functions", !statics.find());
    }

    /** What the calls make is counted: it is nothing, however dear the call. */
    private static void room() {
        CHECK.at("room");
        com.sun.management.ThreadMXBean counter =
            (com.sun.management.ThreadMXBean) java.lang.management.ManagementFactory.getThreadMXBean();
        WonBySeats x = Calls.ofTown("m6;hyyyyyy;fnyyyyn;hyyyyyy;cynynyn;hyyyyyy;fyyyyyy;hyyyyyy;hnyyyyy");
        long spent = 0;
        // the first rounds may make what the machine keeps; more rounds would be more than 512 calls
        for (int round = 0; round < 14; round++) {
            long before = counter.getCurrentThreadAllocatedBytes();
            for (int law = 0; law < 3; law++) {
                x.law(law);
                x.sheet(0, 2, 80);
                x.ever(0);
                x.often(0);
                x.sway(7, 1);
                x.orders(5, -1);
                x.key(0);
                x.lot(0);
                x.fits(0, 2, 0);
                x.safe();
            }
            spent = counter.getCurrentThreadAllocatedBytes() - before;
        }
        CHECK.holds("thirty calls make " + spent + " bytes", spent < 2000);
    }
}
