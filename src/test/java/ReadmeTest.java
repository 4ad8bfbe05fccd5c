import java.io.IOException;
import java.lang.reflect.Method;
import java.nio.file.Files;
import java.nio.file.Path;
import java.util.ArrayList;
import java.util.Arrays;
import java.util.List;
import java.util.Set;
import java.util.TreeSet;
import java.util.regex.Matcher;
import java.util.regex.Pattern;
import java.util.stream.Stream;

/** The calls that README.md shows, done in their order on a new object: each answers as README.md says. */
public final class ReadmeTest {
    private static final Check CHECK = new Check("readme");
    private static final String MADE = "FieldOvens ovens = new FieldOvens();";
    private static final Pattern CALL = Pattern.compile("ovens\\.(\\w+)\\(([^()]*)\\); *// (-?\\d+): (.+)");
    private static final Pattern QUOTED = Pattern.compile("\"([^\"]+)\"");
    /** What a reader needs to come from letters to an answer. */
    private static final List<String> NEEDED = List.of("letters", "land", "march", "plan", "tell", "hungry");

    private final Set<String> answered = new TreeSet<>();
    private FieldOvens ovens;
    // The text that the comment ahead of the calls tells, and as much of it as the letters that came since.
    private String told = "";
    private String come = "";

    public static void main(String[] args) throws IOException, ReflectiveOperationException {
        List<String> readme = Files.readAllLines(Path.of("README.md"));
        new ReadmeTest().doCalls(readme);
        everyTestIsNamed(String.join("\n", readme));
        CHECK.end();
    }

    private void doCalls(List<String> readme) throws ReflectiveOperationException {
        List<String> shown = shownJava(readme);
        long calls = readme.stream().filter(line -> line.contains("ovens.")).count();
        CHECK.due("lines with a call stand in a block of Java",
                shown.stream().filter(line -> line.contains("ovens.")).count(), calls);
        for (String line : shown) doLine(line.strip());
        for (String name : NEEDED) CHECK.yes("README.md shows " + name + " with an answer", answered.contains(name));
    }

    private static List<String> shownJava(List<String> readme) {
        List<String> shown = new ArrayList<>();
        boolean inside = false;
        for (String line : readme) {
            if (line.startsWith("```")) inside = line.equals("```java");
            else if (inside) shown.add(line);
        }
        return shown;
    }

    private void doLine(String line) throws ReflectiveOperationException {
        Matcher call = CALL.matcher(line);
        if (line.equals(MADE)) {
            CHECK.yes("one object for all calls", ovens == null);
            ovens = new FieldOvens();
        } else if (line.startsWith("//")) {
            Matcher quoted = QUOTED.matcher(line);
            if (quoted.find()) told = quoted.group(1);
        } else if (!line.isEmpty()) {
            boolean whole = call.matches() && ovens != null;
            CHECK.yes("a call on the object, and its answer: " + line, whole);
            if (whole) doCall(line, call);
        }
    }

    private void doCall(String line, Matcher call) throws ReflectiveOperationException {
        String name = call.group(1);
        String[] given = call.group(2).isEmpty() ? new String[0] : call.group(2).split(", ");
        Method method = methodOf(name, given.length);
        CHECK.yes("a call of the face: " + line, method != null);
        if (method == null) return;
        Object[] arguments = new Object[given.length];
        for (int i = 0; i < given.length; i++) {
            // A long is told with its L, so that the line is Java as it stands.
            boolean isLong = method.getParameterTypes()[i] == long.class;
            CHECK.yes("numbers as Java has them: " + line, given[i].matches(isLong ? "-?\\d+L" : "-?\\d+"));
            if (isLong) arguments[i] = Long.valueOf(given[i].replace("L", ""));
            else arguments[i] = Integer.valueOf(given[i]);
        }
        long answer = ((Number) method.invoke(ovens, arguments)).longValue();
        CHECK.due(line, answer, Long.parseLong(call.group(3)));
        if (answer >= 0) answered.add(name);
        refusalIsNamed(line, answer, call.group(4));
        if (name.equals("letters")) lettersAreTold(line, (Long) arguments[0], call.group(4));
        if (List.of("land", "march", "tell").contains(name) && answer >= 0) {
            CHECK.yes("the letters are those of " + told + ": " + come, come.equals(told));
            come = "";
        }
    }

    private static Method methodOf(String name, int many) {
        return Arrays.stream(FieldOvens.class.getMethods())
                .filter(method -> method.getDeclaringClass() == FieldOvens.class)
                .filter(method -> method.getName().equals(name) && method.getParameterCount() == many)
                .findFirst().orElse(null);
    }

    private static void refusalIsNamed(String line, long answer, String words) {
        if (answer == FieldOvens.UNKNOWN) CHECK.yes("named: " + line, words.startsWith("UNKNOWN"));
        if (answer == FieldOvens.OUTSIDE) CHECK.yes("named: " + line, words.startsWith("OUTSIDE"));
        if (answer == FieldOvens.STATE) CHECK.yes("named: " + line, words.startsWith("STATE"));
        if (answer == FieldOvens.FULL) CHECK.yes("named: " + line, words.startsWith("FULL"));
    }

    private void lettersAreTold(String line, long given, String words) {
        Matcher quoted = QUOTED.matcher(words);
        boolean found = quoted.find();
        CHECK.yes("the letters are told: " + line, found);
        if (!found) return;
        CHECK.due("the number of " + quoted.group(1), given, Check.packed(quoted.group(1)));
        come += quoted.group(1);
    }

    /** README.md says how the tests are run, and which there are. */
    private static void everyTestIsNamed(String readme) throws IOException {
        CHECK.yes(".ci/run is told", readme.contains("`.ci/run`"));
        try (Stream<Path> files = Files.list(Path.of("src/test/java"))) {
            for (Path file : files.sorted().toList()) {
                String name = file.getFileName().toString().replace(".java", "");
                if (name.endsWith("Test")) CHECK.yes(name + " is told", readme.contains("`" + name + "`"));
            }
        }
    }
}
