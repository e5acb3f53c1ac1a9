import java.io.IOException;
import java.lang.reflect.Array;
import java.lang.reflect.Executable;
import java.lang.reflect.Field;
import java.lang.reflect.Method;
import java.lang.reflect.Modifier;
import java.nio.file.Files;
import java.nio.file.Path;
import java.util.ArrayDeque;
import java.util.ArrayList;
import java.util.Collections;
import java.util.Deque;
import java.util.IdentityHashMap;
import java.util.List;
import java.util.Set;
import java.util.regex.Matcher;
import java.util.regex.Pattern;

/** The rules of LANGUAGE.md that can be seen in the class or its text, and that no call fails. */
public final class LanguageTest {
    private static final Due DUE = new Due("LanguageTest");

    private static final List<String> BARRED = List.of(
            "\\bthrow\\b", "\\btry\\b", "\\bcatch\\b", "\\bsynchronized\\b", "\\bassert\\b", "->", "::",
            "\\bpackage\\b", "\\bMath\\.\\w+Exact\\b", "\\bBig(Integer|Decimal)\\b", "\\bthread\\b",
            "\\bSystem\\.(?!arraycopy)", "\\bMath\\.(random|sqrt|pow)\\b", "\\bdouble\\b", "\\bfloat\\b",
            "(?m)^    (public|protected) (?!static final int NONE|RodBeam\\(\\)|(int|boolean) \\w+\\()");

    private static String source() throws IOException {
        String text = Files.readString(Path.of("src/main/java/RodBeam.java"));
        return text.replaceAll("(?s)/\\*.*?\\*/", "").replaceAll("//.*", "");
    }

    private static void nothingBarred(String source) {
        for (String barred : BARRED) {
            Matcher found = Pattern.compile(barred).matcher(source);
            if (found.find()) {
                DUE.tell("the class has " + found.group());
            }
        }
    }

    private static void importsOnlyArrays(String source) {
        Matcher found = Pattern.compile("(?m)^import (.*);").matcher(source);
        while (found.find()) {
            DUE.same("an import", found.group(1), "java.util.Arrays");
        }
    }

    private static void methodsStayShort(String source) {
        int length = 0;
        for (String line : source.split("\n")) {
            length = line.isBlank() ? 0 : length + 1;
            if (length > 60) {
                DUE.tell("more than sixty lines without a pause at: " + line);
            }
        }
    }

    private static List<Class<?>> classes() {
        List<Class<?>> all = new ArrayList<>(List.of(RodBeam.class.getDeclaredClasses()));
        all.add(RodBeam.class);
        return all;
    }

    private static void classesKeepTheirBounds() {
        DUE.yes("at most twelve classes", classes().size() <= 12);
        for (Class<?> c : classes()) {
            if (c != RodBeam.class) {
                DUE.yes(c + " is static", Modifier.isStatic(c.getModifiers()));
            }
            int own = 0;
            for (Field f : c.getDeclaredFields()) {
                boolean is = Modifier.isStatic(f.getModifiers());
                own += is ? 0 : 1;
                DUE.yes(f + " is no static state", !is || Modifier.isFinal(f.getModifiers()));
            }
            DUE.yes(c + " has at most twenty fields", own <= 20);
            for (Method m : c.getDeclaredMethods()) {
                methodKeepsItsBounds(m);
            }
        }
    }

    private static void methodKeepsItsBounds(Executable m) {
        DUE.yes(m + " takes at most seven parameters", m.getParameterCount() <= 7);
        for (Method open : RodBeam.class.getDeclaredMethods()) {
            DUE.yes(m + " bears no public one's name", Modifier.isPublic(m.getModifiers())
                    || !Modifier.isPublic(open.getModifiers()) || !m.getName().equals(open.getName()));
        }
    }

    /** Objects come from fields and constructors alone, so that a run of calls takes no room. */
    private static void noCallMakesObjects(String source) {
        for (String line : source.split("\n")) {
            boolean makes = Pattern.compile("\\bnew\\b|\\.(clone|copyOf|copyOfRange)\\b").matcher(line).find();
            boolean field = line.matches("    (    )?(private )?final [\\w\\[\\]]+ \\w+ = new .*");
            boolean constructor = line.matches(" +(sections|spans)\\[i\\] = new (Section|Span)\\(\\);");
            DUE.yes("nothing is made in a call: " + line.trim(), !makes || field || constructor);
        }
    }

    /** All runs share one room of 600,000 objects and 7.3 million fields and elements. */
    private static void anObjectTakesLittleRoom() throws IllegalAccessException {
        Set<Object> seen = Collections.newSetFromMap(new IdentityHashMap<>());
        Deque<Object> open = new ArrayDeque<>(List.of(new RodBeam()));
        long places = 0;
        while (!open.isEmpty()) {
            Object one = open.pop();
            if (seen.add(one)) {
                places += one.getClass().isArray() ? elements(one, open) : fields(one, open);
            }
        }
        DUE.yes("an object is made of " + seen.size() + " objects", seen.size() <= 200);
        DUE.yes("an object has " + places + " fields and elements", places <= 2000);
    }

    private static int elements(Object array, Deque<Object> open) {
        if (array instanceof Object[] row) {
            open.addAll(List.of(row));
        }
        return Array.getLength(array);
    }

    private static int fields(Object one, Deque<Object> open) throws IllegalAccessException {
        int count = 0;
        for (Field f : one.getClass().getDeclaredFields()) {
            if (!Modifier.isStatic(f.getModifiers())) {
                count++;
                f.setAccessible(true);
                if (!f.getType().isPrimitive()) {
                    open.add(f.get(one));
                }
            }
        }
        return count;
    }

    /** Every call with every mix of far-off numbers, on an empty object and on a full one. */
    private static void noCallFails() {
        int[] far = {Integer.MIN_VALUE, -1000001, -2, -1, 0, 1, 2, 3, 4, 5, 6, 100, 1000000, Integer.MAX_VALUE};
        RodBeam empty = new RodBeam();
        RodBeam full = new RodBeam();
        for (int a : far) {
            for (int b : far) {
                for (int c : far) {
                    every(empty, a, b, c);
                    fill(full);
                    every(full, a, b, c);
                }
            }
        }
    }

    private static void fill(RodBeam x) {
        for (int i = 0; i < 9; i++) {
            x.band(i % 4, 1 + i, i, 10 * i + 1);
            x.rod(i % 4, 10 * i, 20 * i);
            x.pair(i, i);
            x.size(20 * i, i);
            x.span(2 + i, i % 4);
            x.load(i, 1, 1 + i);
        }
    }

    private static void every(RodBeam x, int a, int b, int c) {
        x.status();
        x.out(a);
        x.change(a, b, c);
        x.told(a, b);
        x.strength(a, b);
        x.width(a, b);
        x.bend(a, b, c > 0);
        x.cut(a, b, c > 0);
        x.borne(a, b, c);
        x.pair(a, b);
        x.safe(a);
        x.size(a, b);
        x.best(a);
        x.chosen(a, b);
        x.take(a);
        x.span(a, b);
        x.hold(a, b > 0);
        x.load(a, b, c);
        x.times(a, b);
        x.factor();
        x.weakest();
        x.band(a, b, c, a);
        x.band(a, b, c, 100);
        x.rod(a, b, c);
        if (a == c) {
            x.clear();
            x.away();
            x.stone(b, 1, c);
        }
    }

    public static void main(String[] args) throws IOException, IllegalAccessException {
        String source = source();
        nothingBarred(source);
        importsOnlyArrays(source);
        methodsStayShort(source);
        classesKeepTheirBounds();
        noCallMakesObjects(source);
        anObjectTakesLittleRoom();
        noCallFails();
        DUE.end();
    }
}
