import java.lang.reflect.Constructor;
import java.lang.reflect.Field;
import java.lang.reflect.Member;
import java.lang.reflect.Method;
import java.lang.reflect.Modifier;
import java.util.Set;
import java.util.TreeSet;

/** Promises 1 to 3 and the public face. */
public final class FaceTest {
    private static final Due DUE = new Due("FaceTest");

    private static final String[] FACE = {
        "int status()", "int out(int)", "boolean stone(int,int,int)", "int band(int,int,int,int)",
        "int rod(int,int,int)", "boolean change(int,int,int)", "int told(int,int)", "int strength(int,int)",
        "int width(int,int)", "int bend(int,int,boolean)", "int cut(int,int,boolean)", "int borne(int,int,int)",
        "int pair(int,int)", "boolean clear()", "int safe(int)", "int size(int,int)", "int best(int)",
        "int chosen(int,int)", "int take(int)", "int span(int,int)", "boolean away()", "boolean hold(int,boolean)",
        "int load(int,int,int)", "int times(int,int)", "int factor()", "int weakest()",
    };

    private static void theFaceIsTheDocuments() {
        Set<String> want = new TreeSet<>(Set.of(FACE));
        Set<String> got = new TreeSet<>();
        for (Method m : RodBeam.class.getDeclaredMethods()) {
            if (isOpen(m)) {
                got.add(m.toGenericString().replaceFirst("^public ", "").replace("RodBeam.", ""));
                DUE.yes(m.getName() + " is public", Modifier.isPublic(m.getModifiers()));
            }
        }
        DUE.same("the methods", got.toString(), want.toString());
        Set<String> constants = new TreeSet<>();
        for (Field f : RodBeam.class.getDeclaredFields()) {
            if (isOpen(f)) {
                constants.add(f.toGenericString());
            }
        }
        DUE.same("the constants", constants.toString(), "[public static final int RodBeam.NONE]");
        Constructor<?>[] makers = RodBeam.class.getDeclaredConstructors();
        DUE.same("the constructors", makers.length, 1);
        DUE.same("the constructor", makers[0].toGenericString(), "public RodBeam()");
        DUE.same("the public classes inside", RodBeam.class.getClasses().length, 0);
        DUE.yes("the class is public and final", Modifier.isPublic(RodBeam.class.getModifiers())
                && Modifier.isFinal(RodBeam.class.getModifiers()));
    }

    private static boolean isOpen(Member m) {
        return !Modifier.isPrivate(m.getModifiers()) && !m.isSynthetic();
    }

    private static void aNewObjectIsEmpty() {
        RodBeam x = new RodBeam();
        DUE.same("status()", x.status(), 0);
        DUE.same("OUT", Due.out(x), "");
        DUE.same("out(0)", x.out(0), -1);
        for (int s = 0; s < 4; s++) {
            int[] want = {10, 50, 0, 0, 0, 0, 0};
            for (int what = 0; what < want.length; what++) {
                DUE.same("told(" + s + ", " + what + ")", x.told(s, what), want[what]);
            }
            DUE.same("safe(" + s + ")", x.safe(s), -2);
            DUE.same("best(" + s + ")", x.best(s), 0);
        }
        DUE.refused("factor()", x, x.factor(), 6);
        DUE.refused("times(0, 0)", x, x.times(0, 0), 1);
        DUE.refused("hold(0, false)", x, x.hold(0, false), 8);
        DUE.refused("hold(1, false)", x, x.hold(1, false), 8);
        DUE.same("pair(0, 0)", x.pair(0, 0), 0);
        DUE.same("size(1, 1)", x.size(1, 1), 0);
        DUE.same("span(2, 0)", x.span(2, 0), 0);
    }

    private static void statusIsOfTheLatestCallThatHasOne() {
        RodBeam x = new RodBeam();
        x.told(4, 0);
        DUE.same("status()", x.status(), 1);
        DUE.same("status() again", x.status(), 1);
        x.out(0);
        DUE.same("status() after out()", x.status(), 1);
        x.told(0, 7);
        DUE.same("status()", x.status(), 2);
        x.told(0, 0);
        DUE.same("status()", x.status(), 0);
        x.told(4, 0);
        x.clear();
        DUE.same("status() after clear()", x.status(), 0);
        x.told(4, 0);
        x.away();
        DUE.same("status() after away()", x.status(), 0);
    }

    private static void outStaysUntilItIsToldAnew() {
        RodBeam x = new RodBeam();
        x.stone(0, 2, 5);
        x.band(0, 3, 0, 10);
        DUE.told("bend(0, 25, true)", x, x.bend(0, 25, true), "875/12");
        DUE.same("out(-1)", x.out(-1), -1);
        DUE.same("out(6)", x.out(6), -1);
        DUE.same("out(greatest)", x.out(Integer.MAX_VALUE), -1);
        DUE.same("out(least)", x.out(Integer.MIN_VALUE), -1);
        DUE.same("out(5)", x.out(5), '2');
        x.bend(0, 61, true);
        x.bend(0, 1000001, true);
        x.cut(9, 0, true);
        x.times(0, 0);
        x.factor();
        DUE.same("OUT after refusals", Due.out(x), "875/12");
        x.told(0, 5);
        x.stone(0, 1, 1);
        x.borne(0, 0, 0);
        x.weakest();
        DUE.same("OUT after other calls", Due.out(x), "875/12");
        DUE.told("cut(0, 0, false)", x, x.cut(0, 0, false), "0/1");
        DUE.same("out(3)", x.out(3), -1);
    }

    private static void objectsAreApart() {
        RodBeam x = new RodBeam();
        RodBeam y = new RodBeam();
        x.band(0, 1, 0, 1);
        x.pair(5, 5);
        x.cut(0, 0, true);
        DUE.same("told(0, 2) of the other", y.told(0, 2), 0);
        DUE.same("safe(0) of the other", y.safe(0), -2);
        DUE.same("OUT of the other", Due.out(y), "");
    }

    public static void main(String[] args) {
        DUE.same("NONE", RodBeam.NONE, -1);
        theFaceIsTheDocuments();
        aNewObjectIsEmpty();
        statusIsOfTheLatestCallThatHasOne();
        outStaysUntilItIsToldAnew();
        objectsAreApart();
        DUE.end();
    }
}
