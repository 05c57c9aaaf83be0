import java.io.IOException;
import java.lang.reflect.Method;
import java.nio.file.Files;
import java.nio.file.Path;
import java.util.List;
import java.util.TreeSet;
import java.util.regex.Matcher;
import java.util.regex.Pattern;
import java.util.stream.Collectors;
import java.util.stream.Stream;

/** That README.md's example answers what it says, and that all calls and tests are told there. */
public final class ReadmeTest {
    private static final Pattern CALL = Pattern.compile("house\\.(\\w+)\\(([-0-9, ]*)\\); +// (-?\\d+|[A-Z]+)(:.*)?");
    private static int wrong = 0;

    private static void check(boolean holds, String what) {
        if (!holds) {
            wrong++;
            System.out.println("not so: " + what);
        }
    }

    public static void main(String[] args) throws IOException, ReflectiveOperationException {
        String readme = Files.readString(Path.of("README.md"));
        example(readme);
        for (Method method : CompassTowers.class.getDeclaredMethods()) {
            if (java.lang.reflect.Modifier.isPublic(method.getModifiers())) {
                check(readme.contains("`" + method.getName() + "("), "README.md tells " + method.getName());
            }
        }
        for (String test : testFiles()) check(readme.contains("src/test/java/" + test), "README.md tells " + test);
        check(readme.contains("```sh\n.ci/run\n```"), "README.md tells how to run the tests");
        System.out.println(wrong == 0 ? "README.md is as due" : wrong + " faults");
        if (wrong != 0) System.exit(1);
    }

    private static void example(String readme) throws ReflectiveOperationException {
        int start = readme.indexOf("```java\n") + "```java\n".length();
        List<String> lines = List.of(readme.substring(start, readme.indexOf("```", start)).split("\n"));
        check(lines.get(0).equals("CompassTowers house = new CompassTowers();"), "the example makes a house first");
        CompassTowers house = new CompassTowers();
        TreeSet<String> used = new TreeSet<>();
        for (String line : lines.subList(1, lines.size())) {
            Matcher call = CALL.matcher(line);
            check(call.matches(), "'" + line + "' is a call with its answer");
            if (!call.matches()) continue;
            int answer = answer(house, call.group(1), call.group(2));
            check(answer == due(call.group(3)), line + " answered " + answer);
            used.add(call.group(1));
        }
        check(used.size() >= 10, "the example uses most calls: " + used);
    }

    private static int answer(CompassTowers house, String name, String told) throws ReflectiveOperationException {
        String[] numbers = told.isEmpty() ? new String[0] : told.split(", *");
        Class<?>[] types = new Class<?>[numbers.length];
        Object[] values = new Object[numbers.length];
        for (int i = 0; i < numbers.length; i++) {
            types[i] = int.class;
            values[i] = Integer.valueOf(numbers[i]);
        }
        return (Integer) CompassTowers.class.getMethod(name, types).invoke(house, values);
    }

    private static int due(String answer) throws ReflectiveOperationException {
        return Character.isLetter(answer.charAt(0)) ? CompassTowers.class.getField(answer).getInt(null) : Integer.parseInt(answer);
    }

    private static List<String> testFiles() throws IOException {
        try (Stream<Path> files = Files.list(Path.of("src/test/java"))) {
            return files.map(file -> file.getFileName().toString()).sorted().collect(Collectors.toList());
        }
    }
}
