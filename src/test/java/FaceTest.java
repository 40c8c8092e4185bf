import java.lang.management.ManagementFactory;
import java.lang.reflect.Field;
import java.lang.reflect.Method;
import java.lang.reflect.Modifier;
import java.nio.file.Files;
import java.nio.file.Path;
import java.util.Set;
import java.util.TreeSet;

/** The public face, what of LANGUAGE.md can be seen from outside, and that calls make no objects. */
public final class FaceTest {
    private static final String[] FACE = {
        "int feed(int,int,int,int,int)", "int text(int)", "int fault()", "int where()", "int about(int,int)",
        "int place(int,int,int)", "int word(int,int)", "int has(int,int)", "int digit(int,int,int)",
        "int far(int,int,int)", "int ball(int,int)", "int ballAt(int,int,int,int)", "int covered(int,int)",
        "int times(int,int,int)", "int table(int,int,int)", "int hole(int,int,int)", "int idle(int,int,int)",
        "int excess(int,int)", "int bound(int,int)", "int pairs(int,int)", "int centre(int,int)",
        "int nearest(int,int)", "int ring(int,int,int)", "int column(int,int,int)", "int worth(int,int,int)",
        "int fewest(int,int,int)", "int set(int,int,boolean)", "int greedy(int,int)", "int thin(int,int)",
        "int better(int,int)", "int sum(int,int,int)", "int join(int,int,int)", "int longer(int,int,int,int)",
        "int shorter(int,int,int,int)", "boolean swap(int,int,int,int)", "boolean shift(int,int,int,int)",
        "int mix(int,int,int,int)", "int holes(int,int,int)", "int undo()", "int same(int,int)",
        "int letter(int,int) throws java.util.NoSuchElementException", "int bytes()", "int trouble()"
    };

    private static int wrong = 0;

    private static void check(boolean holds, String what) {
        if (!holds) {
            wrong++;
            System.out.println("not so: " + what);
        }
    }

    public static void main(String[] args) throws Exception {
        face();
        inside();
        source();
        room();
        System.out.println(wrong == 0 ? "the face is as told" : wrong + " things are not as told");
        if (wrong != 0) System.exit(1);
    }

    private static void face() throws Exception {
        Class<?> c = SlipCovers.class;
        check(Modifier.isPublic(c.getModifiers()) && Modifier.isFinal(c.getModifiers()), "public and final");
        check(c.getDeclaredConstructors().length == 1 && c.getConstructors().length == 1, "one public constructor");
        Set<String> told = new TreeSet<>();
        Set<String> names = new TreeSet<>();
        for (String s : FACE) {
            told.add(s.replace("(", " ("));
            names.add(s.substring(s.indexOf(' ') + 1, s.indexOf('(')));
        }
        Set<String> there = new TreeSet<>();
        for (Method m : c.getDeclaredMethods()) {
            boolean isPrivate = Modifier.isPrivate(m.getModifiers());
            check(isPrivate || Modifier.isPublic(m.getModifiers()), m + " is public or private");
            check(!isPrivate || !names.contains(m.getName()), m + " bears the name of a public one");
            if (!isPrivate) there.add(m.toGenericString().replace("public ", "").replace("SlipCovers.", "").replace("(", " ("));
        }
        check(there.equals(told), "the methods " + there);
        for (Field f : c.getDeclaredFields()) {
            boolean none = f.getName().equals("NONE");
            check(none == Modifier.isPublic(f.getModifiers()) && (none || Modifier.isPrivate(f.getModifiers())), f + " is hidden");
        }
        check(SlipCovers.NONE == -1, "NONE is -1");
    }

    private static void inside() {
        Class<?>[] classes = SlipCovers.class.getDeclaredClasses();
        check(classes.length < 12, "at most some twelve classes");
        Set<String> names = new TreeSet<>();
        for (String s : FACE) names.add(s.substring(s.indexOf(' ') + 1, s.indexOf('(')));
        for (Class<?> c : classes) {
            check(Modifier.isStatic(c.getModifiers()) && !Modifier.isPublic(c.getModifiers()), c + " is static and hidden");
            int fields = 0;
            for (Field f : c.getDeclaredFields()) {
                if (!Modifier.isStatic(f.getModifiers())) fields++;
                check(!Modifier.isStatic(f.getModifiers()) || Modifier.isFinal(f.getModifiers()), f + " is final");
            }
            check(fields <= 20, c + " has few fields");
            for (Method m : c.getDeclaredMethods()) {
                check(m.getParameterCount() <= 7, m + " has at most seven parameters");
                check(!names.contains(m.getName()), m + " bears the name of a public one");
            }
        }
    }

    private static void source() throws Exception {
        String text = Files.readString(Path.of("src/main/java/SlipCovers.java"));
        String bare = text.replaceAll("(?s)/\\*.*?\\*/", "").replaceAll("//[^\n]*", "");
        String[] none = {"try", "catch", "finally", "synchronized", "assert", "instanceof", "package", "Object",
            "System\\.(?!arraycopy)\\w+", "\\w+Exact", "double", "float", "lambda", "hashCode", "toString", "equals"};
        for (String word : none) check(!bare.matches("(?s).*\\b" + word + "\\b.*"), "without " + word);
        check(!bare.contains("->") && !bare.contains("::"), "no lambda, no method reference");
        check(bare.chars().allMatch(b -> b > 0 && b < 127), "signs 1 to 126");
        for (String line : bare.split("\n")) {
            boolean imported = line.equals("import java.util.Arrays;") || line.equals("import java.util.NoSuchElementException;");
            check(!line.startsWith("import") || imported, line);
        }
        int start = 0, number = 0;
        for (String line : text.split("\n")) {
            number++;
            if (line.matches(" {4}( {4})?[a-z].*\\{") && !line.contains(" class ")) start = number;
            if (line.matches(" {4}( {4})?\\}")) check(number - start <= 60, "a method of " + (number - start) + " lines at " + start);
        }
    }

    /** What all calls of a run make is counted: none makes anything, but for the exception of letter(). */
    private static void room() {
        SlipCovers x = Feeding.of("code a on 2 2 2 2 2 2 2 2: 00000000; code b on 3 3 3 3: 0000; code c on 4 4: 00");
        int[] n = Feeding.numbers("code a on 3 3 3 3: 0000, 1111");
        if (!(ManagementFactory.getThreadMXBean() instanceof com.sun.management.ThreadMXBean threads)) return;
        long thread = Thread.currentThread().getId();
        busy(x, n);
        long before = threads.getThreadAllocatedBytes(thread);
        for (int k = 0; k < 10; k++) busy(x, n);
        long made = threads.getThreadAllocatedBytes(thread) - before;
        check(made < 20000, "calls make nothing: " + made + " bytes");
    }

    private static void busy(SlipCovers x, int[] n) {
        for (int c = 0; c < 3; c++) {
            for (int what = 0; what < 6; what++) x.about(c, what);
            x.covered(c, 1);
            x.times(c, 0, 1);
            x.table(c, 1, 1);
            x.hole(c, 1, 0);
            x.idle(c, 1, 0);
            x.excess(c, 1);
            x.bound(c, 1);
            x.pairs(c, 1);
            x.centre(c, 0);
            x.nearest(c, 5);
            x.ring(c, 5, 1);
            x.column(c, 0, 1);
            x.worth(c, 0, 1);
            x.fewest(c, 1, 0);
            x.greedy(c, 1);
            x.better(c, 0);
            x.thin(c, 2);
            x.holes(5, c, 1);
            x.swap(4, c, 0, 1);
            x.shift(4, c, 0, 1);
            x.mix(4, 4, 4, 0);
            x.longer(4, c, 2, 1);
            x.sum(4, 2, 2);
            x.join(4, 2, 2);
            x.shorter(6, 4, 0, 0);
            x.same(4, 5);
        }
        for (int k = 0; k < 11; k++) x.undo();
        for (int k = 0; k < n.length; k += 5) x.feed(n[k], n[k + 1], n[k + 2], n[k + 3], n[k + 4]);
        x.text(5);
    }
}
