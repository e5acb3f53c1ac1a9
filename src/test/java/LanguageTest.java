import java.io.IOException;
import java.nio.file.Files;
import java.nio.file.Path;
import java.util.List;
import java.util.regex.Matcher;
import java.util.regex.Pattern;

/** The rules of LANGUAGE.md that can be seen in the text of the class, and that no call fails. */
public final class LanguageTest {
    private static final Due DUE = new Due("LanguageTest");

    private static final List<String> BARRED = List.of(
            "\\bthrow\\b", "\\btry\\b", "\\bcatch\\b", "\\bsynchronized\\b", "\\bassert\\b", "->", "::",
            "\\bpackage\\b", "\\bMath\\.\\w+Exact\\b", "\\bBig(Integer|Decimal)\\b", "\\bthread\\b",
            "\\bSystem\\.(?!arraycopy)", "\\bMath\\.(random|sqrt|pow)\\b", "\\bdouble\\b", "\\bfloat\\b",
            "(?m)^    (public|protected) (?!static final int NONE|RodBeam\\(\\)|(int|boolean) \\w+\\()");

    private static String source() throws IOException {
        String text = Files.readString(Path.of("src/main/java/RodBeam.java"));
        return text.replaceAll("(?s)/\\*.*?\\*/", "").replaceAll("//.*", "");
    }

    private static void nothingBarred(String source) {
        for (String barred : BARRED) {
            Matcher found = Pattern.compile(barred).matcher(source);
            if (found.find()) {
                DUE.tell("the class has " + found.group());
            }
        }
    }

    private static void importsOnlyArrays(String source) {
        Matcher found = Pattern.compile("(?m)^import (.*);").matcher(source);
        while (found.find()) {
            DUE.same("an import", found.group(1), "java.util.Arrays");
        }
    }

    private static void methodsStayShort(String source) {
        int length = 0;
        for (String line : source.split("\n")) {
            length = line.isBlank() ? 0 : length + 1;
            if (length > 60) {
                DUE.tell("more than sixty lines without a pause at: " + line);
            }
        }
    }

    /** Every call with every mix of far-off numbers, on an empty object and on a full one. */
    private static void noCallFails() {
        int[] far = {Integer.MIN_VALUE, -1000001, -2, -1, 0, 1, 2, 3, 4, 5, 6, 100, 1000000, Integer.MAX_VALUE};
        RodBeam empty = new RodBeam();
        RodBeam full = new RodBeam();
        for (int a : far) {
            for (int b : far) {
                for (int c : far) {
                    every(empty, a, b, c);
                    fill(full);
                    every(full, a, b, c);
                }
            }
        }
    }

    private static void fill(RodBeam x) {
        for (int i = 0; i < 9; i++) {
            x.band(i % 4, 1 + i, i, 10 * i + 1);
            x.rod(i % 4, 10 * i, 20 * i);
            x.pair(i, i);
            x.size(20 * i, i);
            x.span(2 + i, i % 4);
            x.load(i, 1, 1 + i);
        }
    }

    private static void every(RodBeam x, int a, int b, int c) {
        x.status();
        x.out(a);
        x.change(a, b, c);
        x.told(a, b);
        x.strength(a, b);
        x.width(a, b);
        x.bend(a, b, c > 0);
        x.cut(a, b, c > 0);
        x.borne(a, b, c);
        x.pair(a, b);
        x.safe(a);
        x.size(a, b);
        x.best(a);
        x.chosen(a, b);
        x.take(a);
        x.span(a, b);
        x.hold(a, b > 0);
        x.load(a, b, c);
        x.times(a, b);
        x.factor();
        x.weakest();
        x.band(a, b, c, a);
        x.band(a, b, c, 100);
        x.rod(a, b, c);
        if (a == c) {
            x.clear();
            x.away();
            x.stone(b, 1, c);
        }
    }

    public static void main(String[] args) throws IOException {
        String source = source();
        nothingBarred(source);
        importsOnlyArrays(source);
        methodsStayShort(source);
        noCallFails();
        DUE.end();
    }
}
