import java.util.ArrayList;
import java.util.List;

/**
 * Tests of one sentence of the document each: lines of calls on a new object.
 *
 * <pre>
 *   "stone(0, 1, 0)"           it has STATUS 0
 *   "told(0, 0) = 1"           it answers so, and has STATUS 0
 *   "bend(0, 0, true) > 0/1"   OUT is that, its answer is how many bytes, and it has STATUS 0
 *   "told(4, 0) ! 1"           it is refused with that STATUS, and changes nothing else
 * </pre>
 */
final class Sentences {
    private static final int MOST_CALLS = 512;
    /** PUSH 0 can always be cut: so OUT holds something that a refused call could spoil. */
    private static final Call FILLS_OUT = new Call("cut(3, 0, true)");

    private final Due due;

    Sentences(Due due) {
        this.due = due;
    }

    void holds(String sentence, String... lines) {
        RodBeam x = new RodBeam();
        List<Call> before = new ArrayList<>();
        int calls = 0;
        for (String line : lines) {
            int end = line.indexOf(')') + 1;
            Call call = new Call(line.substring(0, end));
            String rest = line.substring(end).trim();
            calls += look(sentence + ": " + line, x, call, rest);
            if (rest.startsWith("!")) {
                changesNothing(sentence + ": " + line, before, call);
            }
            before.add(call);
        }
        keepsUnderTheMost(sentence, calls);
    }

    /** The same calls, refused whatever there is of everything: nothing, some, as much as may be. */
    void refusedEverywhere(String sentence, int status, String... calls) {
        refusedIn(Worlds.BARE, sentence + " (with nothing there)", status, calls);
        refusedIn(Worlds.SOME, sentence + " (with some there)", status, calls);
        refusedIn(Worlds.FULL, sentence + " (with all there)", status, calls);
    }

    void refusedIn(String[] world, String sentence, int status, String... calls) {
        for (String call : calls) {
            holds(sentence, lines(world, call + " ! " + status));
        }
    }

    /** Calls with what stands for # just outside its bounds, and as far outside as an int goes. */
    static String[] outside(String call, int least, int most) {
        return with(call, "" + (least - 1), "" + (most + 1), "MIN", "MAX");
    }

    static String[] with(String call, String... words) {
        String[] all = new String[words.length];
        for (int i = 0; i < words.length; i++) {
            all[i] = call.replace("#", words[i]);
        }
        return all;
    }

    static String[] repeat(int count, String line) {
        String[] all = new String[count];
        for (int i = 0; i < count; i++) {
            all[i] = line.replace("#", "" + i);
        }
        return all;
    }

    /** Lines and rows of lines, one behind the other. */
    static String[] lines(Object... parts) {
        List<String> all = new ArrayList<>();
        for (Object part : parts) {
            if (part instanceof String[] row) {
                all.addAll(List.of(row));
            } else {
                all.add((String) part);
            }
        }
        return all.toArray(new String[0]);
    }

    /** How many calls it took. */
    private int look(String what, RodBeam x, Call call, String rest) {
        int answer = call.on(x);
        if (!call.hasStatus()) {
            due.same(what, answer, number(rest.substring(1).trim()));
            return 1;
        }
        due.same("STATUS of " + what, x.status(), rest.startsWith("!") ? number(rest.substring(1).trim()) : 0);
        if (rest.startsWith("!")) {
            due.same(what, answer, call.answerWhenRefused());
        } else if (rest.startsWith("=")) {
            due.same(what, answer, number(rest.substring(1).trim()));
        } else if (rest.startsWith(">")) {
            String text = rest.substring(1).trim();
            due.same(what, answer, text.length());
            due.same("OUT of " + what, Due.out(x), text);
            return 3 + 2 * text.length();
        }
        return 2;
    }

    private static int number(String word) {
        return word.equals("true") ? 1 : word.equals("false") ? 0 : Integer.parseInt(word);
    }

    /** Of two objects made alike one is asked the refused call: they must stay alike. */
    private void changesNothing(String what, List<Call> before, Call refused) {
        RodBeam asked = made(before);
        refused.on(asked);
        due.same("OUT left by " + what, Due.out(asked), Due.out(made(before)));
        List<Call> longer = new ArrayList<>(before);
        longer.add(FILLS_OUT);
        for (int part = 0; part < Told.PARTS; part++) {
            asked = made(longer);
            refused.on(asked);
            RodBeam other = made(longer);
            String outOfOther = Due.out(other);
            due.same("a filled OUT left by " + what, Due.out(asked), outOfOther);
            Told left = Told.part(asked, part);
            due.same("the state left by " + what, left.text(), Told.part(other, part).text());
            keepsUnderTheMost(what, longer.size() + 2 + 2 * outOfOther.length() + left.calls());
        }
    }

    private static RodBeam made(List<Call> calls) {
        RodBeam x = new RodBeam();
        for (Call call : calls) {
            call.on(x);
        }
        return x;
    }

    private void keepsUnderTheMost(String what, int calls) {
        if (calls > MOST_CALLS) {
            due.tell("a test of " + calls + " calls on one object, of which 512 are promised: " + what);
        }
    }
}
