import java.io.IOException;
import java.lang.reflect.Method;
import java.nio.file.Files;
import java.nio.file.Path;
import java.util.Set;
import java.util.TreeSet;
import java.util.regex.Matcher;
import java.util.regex.Pattern;
import java.util.stream.Collectors;
import java.util.stream.Stream;

/** README.md: the answers of its calls are as it tells, and it names each test. */
public final class ReadmeTest {
    private static final Pattern CALL = Pattern.compile(" {4}light\\.(\\w+)\\(([-\\d, ]*)\\);\\s+// (-?[\\d.]+): .*");
    private static final Pattern ROW = Pattern.compile("\\| (\\w+Test) \\| .*");

    public static void main(String[] args) throws IOException, ReflectiveOperationException {
        Due due = new Due("ReadmeTest");
        String readme = Files.readString(Path.of("README.md"));
        calls(due, readme);
        tests(due, readme);
        due.holds("it tells how the tests are run", readme.contains("\n    .ci/run\n"));
        due.close();
    }

    private static void calls(Due due, String readme) throws ReflectiveOperationException {
        PillarLight light = new PillarLight();
        int shown = 0;
        for (String line : readme.split("\n")) {
            if (line.startsWith("    light.")) {
                Matcher call = CALL.matcher(line);
                due.holds("an answer is told in: " + line, call.matches());
                due.isDouble(line.trim(), answer(light, call.group(1), call.group(2)),
                        Double.parseDouble(call.group(3)));
                shown++;
            }
        }
        due.holds("most calls are shown", shown > 20);
    }

    private static double answer(PillarLight light, String name, String told) throws ReflectiveOperationException {
        String[] words = told.isEmpty() ? new String[0] : told.split(", ");
        Class<?>[] types = new Class<?>[words.length];
        Object[] values = new Object[words.length];
        for (int i = 0; i < words.length; i++) {
            types[i] = int.class;
            values[i] = Integer.valueOf(words[i]);
        }
        Method method = PillarLight.class.getMethod(name, types);
        return ((Number) method.invoke(light, values)).doubleValue();
    }

    private static void tests(Due due, String readme) throws IOException {
        Set<String> named = new TreeSet<>();
        for (String line : readme.split("\n")) {
            Matcher row = ROW.matcher(line);
            if (row.matches()) {
                named.add(row.group(1));
            }
        }
        try (Stream<Path> files = Files.list(Path.of("src/test/java"))) {
            Set<String> there = files.map(file -> file.getFileName().toString().replace(".java", ""))
                    .filter(name -> name.endsWith("Test")).collect(Collectors.toCollection(TreeSet::new));
            due.isText("the tests that it names", named.toString(), there.toString());
        }
    }
}
