import java.io.IOException;
import java.lang.management.ManagementFactory;
import java.lang.reflect.Constructor;
import java.lang.reflect.Field;
import java.lang.reflect.Method;
import java.lang.reflect.Modifier;
import java.nio.file.Files;
import java.nio.file.Path;
import java.util.Arrays;
import java.util.TreeSet;
import java.util.regex.Matcher;
import java.util.regex.Pattern;

/** The public face, the words that LANGUAGE.md leaves out, and that a call makes nothing in the one room. */
public final class FaceTest {
    private static final String[] METHODS = {"prime(int)", "why()", "step(int,int,int,int)", "back()", "thing(int,int)",
        "coordinate(int,int,int)", "base(int,int)", "one(int,int)", "on(int,int)", "way(int,int)", "square(int,int)",
        "degree(int)", "coefficient(int,int)", "conjugate(int,int,int)", "order(int)", "corners(int)", "count(int)"};
    private static final String[] CONSTANTS = {"BAD", "ZERO", "SAME", "MISSES", "HIGH", "FULL", "NONE"};
    private static int wrong = 0;

    private static void check(boolean holds, String what) {
        if (!holds) {
            wrong++;
            System.out.println("not so: " + what);
        }
    }

    public static void main(String[] args) throws Exception {
        document();
        members();
        inside();
        words();
        lengths();
        room();
        System.out.println(wrong == 0 ? "the face is as due" : wrong + " faults");
        if (wrong != 0) System.exit(1);
    }

    /** That the lists above are the document's; without it they are tested all the same. */
    private static void document() throws IOException {
        Path path = Path.of("../shared/DOC.md");
        if (!Files.exists(path)) return;
        TreeSet<String> methods = new TreeSet<>();
        Matcher m = Pattern.compile("public int (\\w+)\\(([^)]*)\\);").matcher(Files.readString(path));
        while (m.find()) methods.add(m.group(1) + "(" + m.group(2).replaceAll("int \\w+", "int").replace(" ", "") + ")");
        check(methods.equals(new TreeSet<>(Arrays.asList(METHODS))), "the methods that stand in the document: " + methods);
        StringBuilder constants = new StringBuilder("public static final int");
        for (int i = 0; i < CONSTANTS.length; i++) constants.append(i == 0 ? " " : ", ").append(CONSTANTS[i]).append(" = ").append(-1 - i);
        check(Files.readString(path).contains(constants + ";"), "the constants that stand in the document");
    }

    private static void members() throws IllegalAccessException {
        Class<?> face = CompassTowers.class;
        check(Modifier.isPublic(face.getModifiers()) && Modifier.isFinal(face.getModifiers()), "public and final");
        TreeSet<String> found = new TreeSet<>();
        TreeSet<String> hidden = new TreeSet<>();
        for (Method m : face.getDeclaredMethods()) {
            if (Modifier.isPrivate(m.getModifiers())) {
                hidden.add(m.getName());
                continue;
            }
            check(Modifier.isPublic(m.getModifiers()) && m.getReturnType() == int.class, m.getName() + " is public and answers an int");
            found.add(m.getName() + Arrays.toString(m.getParameterTypes()).replace("[", "(").replace("]", ")").replace(" ", ""));
        }
        check(found.equals(new TreeSet<>(Arrays.asList(METHODS))), "the methods of the document: " + found);
        for (String name : METHODS) check(!hidden.contains(name.substring(0, name.indexOf('('))), "no private " + name);
        Constructor<?>[] made = face.getDeclaredConstructors();
        check(made.length == 1 && Modifier.isPublic(made[0].getModifiers()) && made[0].getParameterCount() == 0, "one constructor");
        TreeSet<String> constants = new TreeSet<>();
        for (Field f : face.getDeclaredFields()) {
            if (Modifier.isPrivate(f.getModifiers())) continue;
            constants.add(f.getName());
            int at = Arrays.asList(CONSTANTS).indexOf(f.getName());
            check(at >= 0 && f.getType() == int.class && f.getInt(null) == -1 - at, f.getName() + " as told");
        }
        check(constants.equals(new TreeSet<>(Arrays.asList(CONSTANTS))), "the constants of the document: " + constants);
    }

    /** The limits of LANGUAGE.md on the classes, their fields and their methods. */
    private static void inside() {
        Class<?>[] classes = CompassTowers.class.getDeclaredClasses();
        check(classes.length < 12, "at most twelve classes");
        limits(CompassTowers.class);
        for (Class<?> inside : classes) {
            check(Modifier.isStatic(inside.getModifiers()), inside.getName() + " is static");
            check(!Modifier.isPublic(inside.getModifiers()) && !Modifier.isProtected(inside.getModifiers()), inside.getName() + " is hidden");
            limits(inside);
            for (Method m : inside.getDeclaredMethods()) {
                for (String name : METHODS) check(!name.startsWith(m.getName() + "("), inside.getName() + " has no " + m.getName());
            }
        }
    }

    private static void limits(Class<?> one) {
        int fields = 0;
        for (Field f : one.getDeclaredFields()) {
            boolean constant = Modifier.isStatic(f.getModifiers());
            check(!constant || Modifier.isFinal(f.getModifiers()), f + " is final");
            check(!constant || f.getType() == int.class || f.getType() == int[].class, f + " is a constant");
            if (!constant) fields++;
        }
        check(fields <= 20, one.getName() + " has " + fields + " fields");
        for (Method m : one.getDeclaredMethods()) check(m.getParameterCount() <= 7, m + " takes at most seven");
    }

    private static void lengths() throws IOException {
        String[] lines = Files.readString(Path.of("src/main/java/CompassTowers.java")).split("\n");
        for (int from = 0; from < lines.length; from++) {
            if (!lines[from].matches("( {4}| {8})\\w[^;]*\\) \\{")) continue;
            String end = lines[from].replaceAll("\\w.*", "}");
            int to = from;
            while (to + 1 < lines.length && !lines[to].equals(end)) to++;
            check(to - from < 60, lines[from].trim() + " has " + (to - from + 1) + " lines");
        }
    }

    private static void words() throws IOException {
        String text = Files.readString(Path.of("src/main/java/CompassTowers.java"));
        String code = text.replaceAll("(?s)/\\*.*?\\*/", "").replaceAll("//[^\n]*", "");
        Matcher m = Pattern.compile("\\b(throw|throws|try|catch|synchronized|assert|package|import|protected|Exact)\\b|->|::|@").matcher(code);
        while (m.find()) check(false, "no '" + m.group() + "' in the class");
        m = Pattern.compile("\\b(System|Math|Integer|Long|Arrays|String|Object)\\.(\\w+)").matcher(code);
        while (m.find()) {
            check(m.group().matches("Math\\.(max|min|floorMod)|Integer\\.(numberOfTrailingZeros|numberOfLeadingZeros|highestOneBit)"),
                m.group() + " is of the library that is left");
        }
    }

    private static void room() {
        com.sun.management.ThreadMXBean threads = (com.sun.management.ThreadMXBean) ManagementFactory.getThreadMXBean();
        long id = Thread.currentThread().getId();
        threads.getThreadAllocatedBytes(id);
        long start = threads.getThreadAllocatedBytes(id);
        CompassTowers x = new CompassTowers();
        long made = threads.getThreadAllocatedBytes(id);
        check(made - start < 60000, "an object takes " + (made - start) + " bytes");
        start = threads.getThreadAllocatedBytes(id);
        int sum = 0;
        for (int round = 0; round < 3; round++) sum += useAll(x);
        made = threads.getThreadAllocatedBytes(id);
        check(made - start < 2000, "the calls (" + sum + ") made " + (made - start) + " bytes");
    }

    private static int useAll(CompassTowers x) {
        int sum = x.prime(5) + x.step(0, 2, 0, 0) + x.step(0, 0, 0, 0) + x.step(0, 1, 0, 0);
        int first = x.count(0) - 3;
        sum += x.step(6, first + 1, first + 1, 0) + x.step(6, first, first + 2, 0) + x.step(7, first + 3, first + 4, 0)
            + x.step(8, first + 3, first + 4, 0) + x.step(12, first + 5, first + 6, 0) + x.step(5, first, 0, 0)
            + x.step(8, first + 4, first + 3, 0) + x.step(12, first + 6, first + 9, 1);
        for (int i = 0; i < 4; i++) sum += x.step(5, x.count(0) - 1, 0, 0);
        for (int t = 0; t < x.count(0); t++) {
            sum += x.order(t) + x.degree(t) + x.coefficient(t, 1) + x.conjugate(t, 1, 1) + x.thing(t, 5) + x.square(t, 3)
                + x.on(t, first + 5) + x.one(t, first) + x.way(t, first + 5) + x.coordinate(t, 0, 0);
        }
        return sum + x.prime(32749) + x.corners(17) + x.base(0, 0) + x.why() + x.count(3) + x.back();
    }
}
