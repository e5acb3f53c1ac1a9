import java.io.IOException;
import java.lang.reflect.Method;
import java.lang.reflect.Modifier;
import java.nio.file.Files;
import java.nio.file.Path;
import java.util.Arrays;
import java.util.List;
import java.util.Set;
import java.util.TreeSet;
import java.util.regex.Matcher;
import java.util.regex.Pattern;
import java.util.stream.Collectors;
import java.util.stream.Stream;

/**
 * What README.md shows of the class is so: each line of its Java blocks is a call with its answer,
 * its OUT if it fills it, and its STATUS if that isn't 0.
 */
public final class ReadmeTest {
    private static final Due DUE = new Due("ReadmeTest");

    private static final String A_NEW_OBJECT = "RodBeam x = new RodBeam();";
    private static final Pattern CALL = Pattern.compile("x\\.(\\w+\\([^)]*\\)); +// (-?\\d+|true|false)"
            + "(?:, OUT is (-?\\d+/\\d+))?(?:, STATUS is (\\d))?(?:: .+)?");
    private static final List<String> FILL_OUT = List.of("bend", "cut", "times", "factor");

    private final Set<String> shown = new TreeSet<>();
    private final Set<Integer> statuses = new TreeSet<>();
    private RodBeam x = null;

    private void everyCallShown(String readme) {
        boolean inside = false;
        for (String line : readme.split("\n")) {
            if (line.startsWith("```")) {
                inside = line.equals("```java");
                x = null;
            } else if (inside && line.equals(A_NEW_OBJECT)) {
                x = new RodBeam();
            } else if (inside) {
                callShown(line);
            }
        }
    }

    private void callShown(String line) {
        Matcher parts = CALL.matcher(line);
        if (x == null || !parts.matches()) {
            DUE.tell("no call with its answer on an object: " + line);
            return;
        }
        Call call = new Call(parts.group(1));
        String name = call.text.substring(0, call.text.indexOf('('));
        int answer = call.on(x);
        DUE.same(line, told(answer, parts.group(2)), parts.group(2));
        shown.add(name);
        if (call.hasStatus()) {
            int status = parts.group(4) == null ? 0 : Integer.parseInt(parts.group(4));
            DUE.same("STATUS of " + line, x.status(), status);
            statuses.add(status);
            outShown(line, FILL_OUT.contains(name) && status == 0, parts.group(3));
        }
    }

    private static String told(int answer, String asShown) {
        return Character.isLetter(asShown.charAt(0)) ? answer == 1 ? "true" : "false" : "" + answer;
    }

    private void outShown(String line, boolean filled, String out) {
        if (filled && out != null) {
            DUE.same("OUT of " + line, Due.out(x), out);
        } else if (filled || out != null) {
            DUE.tell("OUT is to be shown where it is filled, and there alone: " + line);
        }
    }

    private void nothingLeftOut() {
        Set<String> face = Arrays.stream(RodBeam.class.getDeclaredMethods())
                .filter(m -> Modifier.isPublic(m.getModifiers())).map(Method::getName)
                .collect(Collectors.toCollection(TreeSet::new));
        DUE.same("the calls shown", shown.toString(), face.toString());
        DUE.same("the STATUSES shown", statuses.toString(), "[0, 1, 2, 3, 4, 5, 6, 7, 8]");
    }

    /** Every test of the project is named, and what is named like a test is one. */
    private static void testsAreNamed(String readme) throws IOException {
        Set<String> there;
        try (Stream<Path> files = Files.list(Path.of("src/test/java"))) {
            there = files.map(f -> f.getFileName().toString().replace(".java", ""))
                    .filter(f -> f.endsWith("Test")).collect(Collectors.toCollection(TreeSet::new));
        }
        Set<String> named = new TreeSet<>();
        Matcher name = Pattern.compile("\\b[A-Z]\\w*Test\\b").matcher(readme.replace("*EdgesTest", ""));
        while (name.find()) {
            named.add(name.group());
        }
        DUE.same("the tests named", named.toString(), there.toString());
    }

    public static void main(String[] args) throws IOException {
        String readme = Files.readString(Path.of("README.md"));
        ReadmeTest test = new ReadmeTest();
        test.everyCallShown(readme);
        test.nothingLeftOut();
        testsAreNamed(readme);
        DUE.end();
    }
}
