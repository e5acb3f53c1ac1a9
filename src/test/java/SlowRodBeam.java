import java.util.ArrayList;
import java.util.List;

/**
 * The document once more, written apart from the class and for plainness alone: HIGH by its bound
 * from every cut, CUT by trying every height that can be one, BEST by trying every choice.
 */
final class SlowRodBeam {
    private static final class Section {
        int f = 10;
        int z = 50;
        final List<int[]> bands = new ArrayList<>();
        final List<int[]> rods = new ArrayList<>();

        int width(int y) {
            return bands.stream().filter(b -> b[1] <= y && y < b[2]).mapToInt(b -> b[0]).sum();
        }

        int area() {
            return bands.stream().mapToInt(b -> b[0] * (b[2] - b[1])).sum();
        }

        int pulls() {
            return rods.stream().mapToInt(r -> r[1]).sum();
        }

        int most() {
            return f * area() + pulls();
        }
    }

    private static final class Span {
        int length;
        Section section;
        final List<int[]> loads = new ArrayList<>();
    }

    private int status = 0;
    private String out = "";
    private final List<Section> sections = new ArrayList<>();
    private final List<int[]> pairs = new ArrayList<>();
    private final List<int[]> sizes = new ArrayList<>();
    private final List<Span> spans = new ArrayList<>();
    private final boolean[] held = new boolean[2];

    SlowRodBeam() {
        for (int i = 0; i < 4; i++) {
            sections.add(new Section());
        }
    }

    int status() {
        return status;
    }

    String out() {
        return out;
    }

    private int no(int why) {
        status = why;
        return -1;
    }

    private int ok(int answer) {
        status = 0;
        return answer;
    }

    private int say(Rational what) {
        out = what.toString();
        return ok(out.length());
    }

    private static boolean in(int k, int a, int b) {
        return a <= k && k <= b;
    }

    private static boolean has(List<?> list, int k) {
        return in(k, 0, list.size() - 1);
    }

    private static boolean near(int k) {
        return in(k, -1000000, 1000000);
    }

    private static int more(List<int[]> list, int... what) {
        list.add(what);
        return list.size() - 1;
    }

    int stone(int section, int f, int z) {
        if (!has(sections, section)) {
            return no(1) + 1;
        }
        if (!in(f, 1, 50) || !in(z, 0, 100)) {
            return no(2) + 1;
        }
        Section s = sections.get(section);
        s.f = f;
        s.z = z;
        s.bands.clear();
        s.rods.clear();
        return ok(1);
    }

    int band(int section, int width, int from, int to) {
        if (!has(sections, section)) {
            return no(1);
        }
        if (!in(width, 1, 100) || !in(from, 0, 100) || !in(to, 0, 100) || to <= from) {
            return no(2);
        }
        List<int[]> bands = sections.get(section).bands;
        return bands.size() == 8 ? no(3) : ok(more(bands, width, from, to));
    }

    int rod(int section, int height, int strength) {
        if (!has(sections, section)) {
            return no(1);
        }
        if (!in(height, 0, 100) || !in(strength, 0, 200)) {
            return no(2);
        }
        List<int[]> rods = sections.get(section).rods;
        return rods.size() == 6 ? no(3) : ok(more(rods, height, strength));
    }

    int change(int section, int rod, int strength) {
        if (!has(sections, section) || !has(sections.get(section).rods, rod)) {
            return no(1) + 1;
        }
        if (!in(strength, 0, 200)) {
            return no(2) + 1;
        }
        sections.get(section).rods.get(rod)[1] = strength;
        return ok(1);
    }

    int told(int section, int what) {
        if (!has(sections, section)) {
            return no(1);
        }
        Section s = sections.get(section);
        int[] all = {s.f, s.z, s.bands.size(), s.rods.size(), s.area(), s.most(), -s.pulls()};
        return in(what, 0, 6) ? ok(all[what]) : no(2);
    }

    int strength(int section, int rod) {
        if (!has(sections, section) || !has(sections.get(section).rods, rod)) {
            return no(1);
        }
        return ok(sections.get(section).rods.get(rod)[1]);
    }

    int width(int section, int height) {
        if (!has(sections, section)) {
            return no(1);
        }
        return in(height, 0, 99) ? ok(sections.get(section).width(height)) : no(2);
    }

    /** The push of all STONE on one side of c. */
    private static Rational stoneBeyond(Section s, Rational c, boolean above) {
        Rational sum = Rational.ZERO;
        for (int[] b : s.bands) {
            Rational part = above ? Rational.of(b[2]).minus(c) : c.minus(Rational.of(b[1]));
            Rational depth = part.lesser(Rational.of(b[2] - b[1]));
            if (depth.compareTo(Rational.ZERO) > 0) {
                sum = sum.plus(depth.by(Rational.of((long) s.f * b[0])));
            }
        }
        return sum;
    }

    /** The least (sign -1) or greatest PUSH with the cut at c, the RODS at c pulling or pushing. */
    private static Rational pushAt(Section s, Rational c, boolean above, int sign) {
        Rational sum = stoneBeyond(s, c, above);
        for (int[] r : s.rods) {
            int side = Rational.of(r[0]).compareTo(c) * (above ? 1 : -1);
            sum = sum.plus(Rational.of((side == 0 ? sign : side > 0 ? 1 : -1) * r[1]));
        }
        return sum;
    }

    /** Every height at which a CUT or the tightest bound can lie. */
    private static List<Rational> heights(Section s, int n, boolean above) {
        List<Rational> all = new ArrayList<>();
        for (int y = 0; y <= 100; y++) {
            all.add(Rational.of(y));
            int density = y == 100 ? 0 : s.f * s.width(y);
            if (density > 0) {
                Rational half = Rational.of(2 * y + 1, 2);
                Rational over = pushAt(s, half, above, 1).minus(Rational.of(n));
                Rational move = over.over(Rational.of(density)).by(Rational.of(above ? 1 : -1));
                if (move.size().compareTo(Rational.of(1, 2)) < 0) {
                    all.add(half.plus(move));
                }
            }
        }
        return all;
    }

    private static Rational cutOf(Section s, int n, boolean above) {
        Rational found = null;
        Rational push = Rational.of(n);
        for (Rational c : heights(s, n, above)) {
            boolean is = pushAt(s, c, above, -1).compareTo(push) <= 0
                    && pushAt(s, c, above, 1).compareTo(push) >= 0;
            if (is && (found == null || above)) {
                found = c;
            }
        }
        return found;
    }

    /**
     * No STATE of PUSH n bends more, about c, than all STONE above c and all RODS pulling or
     * pushing away from it; HIGH is the least of these bounds.
     */
    private static Rational highOf(Section s, int n) {
        Rational least = null;
        for (Rational c : heights(s, n, true)) {
            Rational sum = c.minus(Rational.of(s.z)).by(Rational.of(n)).plus(stoneAbout(s, c));
            for (int[] r : s.rods) {
                sum = sum.plus(Rational.of(r[0]).minus(c).size().by(Rational.of(r[1])));
            }
            least = least == null ? sum : least.lesser(sum);
        }
        return least;
    }

    private static Rational stoneAbout(Section s, Rational c) {
        Rational sum = Rational.ZERO;
        for (int[] b : s.bands) {
            Rational far = Rational.of(b[2]).minus(c);
            Rational close = Rational.of(b[1]).minus(c);
            if (far.compareTo(Rational.ZERO) > 0) {
                Rational from = close.compareTo(Rational.ZERO) > 0 ? close : Rational.ZERO;
                Rational twice = far.by(far).minus(from.by(from));
                sum = sum.plus(twice.by(Rational.of((long) s.f * b[0], 2)));
            }
        }
        return sum;
    }

    /** LOW is HIGH of the SECTION stood on its head, the other way round. */
    private static Rational lowOf(Section s, int n) {
        Section o = new Section();
        o.f = s.f;
        o.z = 100 - s.z;
        s.bands.forEach(b -> o.bands.add(new int[] {b[0], 100 - b[2], 100 - b[1]}));
        s.rods.forEach(r -> o.rods.add(new int[] {100 - r[0], r[1]}));
        return highOf(o, n).by(Rational.of(-1));
    }

    private static boolean reaches(Section s, int n) {
        return in(n, -s.pulls(), s.most());
    }

    private static boolean bears(Section s, int n, int m) {
        Rational asked = Rational.of(m);
        return reaches(s, n) && highOf(s, n).compareTo(asked) >= 0 && lowOf(s, n).compareTo(asked) <= 0;
    }

    int bend(int section, int n, boolean high) {
        if (!has(sections, section)) {
            return no(1);
        }
        if (!near(n)) {
            return no(2);
        }
        Section s = sections.get(section);
        return reaches(s, n) ? say(high ? highOf(s, n) : lowOf(s, n)) : no(4);
    }

    int cut(int section, int n, boolean top) {
        if (!has(sections, section)) {
            return no(1);
        }
        if (!near(n)) {
            return no(2);
        }
        Section s = sections.get(section);
        return reaches(s, n) ? say(cutOf(s, n, top)) : no(4);
    }

    int borne(int section, int n, int m) {
        if (!has(sections, section)) {
            return no(1);
        }
        return near(n) && near(m) ? ok(bears(sections.get(section), n, m) ? 1 : 0) : no(2);
    }

    int pair(int n, int m) {
        if (!near(n) || !near(m)) {
            return no(2);
        }
        return pairs.size() == 8 ? no(3) : ok(more(pairs, n, m));
    }

    int clear() {
        pairs.clear();
        return ok(1);
    }

    private int unborne(Section s) {
        for (int i = 0; i < pairs.size(); i++) {
            if (!bears(s, pairs.get(i)[0], pairs.get(i)[1])) {
                return i;
            }
        }
        return -2;
    }

    int safe(int section) {
        return has(sections, section) ? ok(unborne(sections.get(section))) : no(1);
    }

    int size(int strength, int price) {
        if (!in(strength, 1, 200) || !in(price, 1, 10000)) {
            return no(2);
        }
        return sizes.size() == 4 ? no(3) : ok(more(sizes, strength, price));
    }

    /** A SIZE for each ROD (-2: none), and behind them the price; null if it can't be SAFE. */
    private int[] bestOf(Section s) {
        int rods = s.rods.size();
        int[] found = null;
        long choices = 1;
        for (int r = 0; r < rods; r++) {
            choices *= sizes.size() + 1;
        }
        Section trial = new Section();
        trial.f = s.f;
        trial.z = s.z;
        trial.bands.addAll(s.bands);
        for (long choice = 0; choice < choices; choice++) {
            int[] pick = new int[rods + 1];
            long rest = choice;
            trial.rods.clear();
            for (int r = rods - 1; r >= 0; r--) {
                int option = (int) (rest % (sizes.size() + 1));
                rest /= sizes.size() + 1;
                pick[r] = option == 0 ? -2 : option - 1;
                pick[rods] += option == 0 ? 0 : sizes.get(option - 1)[1];
                trial.rods.add(new int[] {s.rods.get(r)[0], option == 0 ? 0 : sizes.get(option - 1)[0]});
            }
            if ((found == null || pick[rods] < found[rods]) && unborne(trial) == -2) {
                found = pick;
            }
        }
        return found;
    }

    int best(int section) {
        if (!has(sections, section)) {
            return no(1);
        }
        int[] pick = bestOf(sections.get(section));
        return pick == null ? no(5) : ok(pick[pick.length - 1]);
    }

    int chosen(int section, int rod) {
        if (!has(sections, section) || !has(sections.get(section).rods, rod)) {
            return no(1);
        }
        int[] pick = bestOf(sections.get(section));
        return pick == null ? no(5) : ok(pick[rod]);
    }

    int take(int section) {
        if (!has(sections, section)) {
            return no(1);
        }
        Section s = sections.get(section);
        int[] pick = bestOf(s);
        if (pick == null) {
            return no(5);
        }
        int changed = 0;
        for (int r = 0; r < s.rods.size(); r++) {
            int strength = pick[r] < 0 ? 0 : sizes.get(pick[r])[0];
            changed += strength == s.rods.get(r)[1] ? 0 : 1;
            s.rods.get(r)[1] = strength;
        }
        return ok(changed);
    }

    int span(int length, int section) {
        if (!has(sections, section)) {
            return no(1);
        }
        if (!in(length, 2, 50)) {
            return no(2);
        }
        if (spans.size() == 5) {
            return no(3);
        }
        Span s = new Span();
        s.length = length;
        s.section = sections.get(section);
        spans.add(s);
        return ok(spans.size() - 1);
    }

    int away() {
        spans.clear();
        return ok(1);
    }

    int hold(int end, boolean is) {
        if (!in(end, 0, 1)) {
            return no(2) + 1;
        }
        if (held[end] == is) {
            return no(8) + 1;
        }
        held[end] = is;
        return ok(1);
    }

    int load(int span, int place, int weight) {
        if (!has(spans, span)) {
            return no(1);
        }
        Span s = spans.get(span);
        if (!in(place, 1, s.length - 1) || !in(weight, 1, 1000)) {
            return no(2);
        }
        if (s.loads.size() == 2) {
            return no(3);
        }
        return s.loads.stream().anyMatch(l -> l[0] == place) ? no(7) : ok(more(s.loads, place, weight));
    }

    private static Rational hogOf(Span s) {
        return lowOf(s.section, 0).by(Rational.of(-1));
    }

    private Rational hogAt(int support) {
        if (support == 0) {
            return held[0] ? hogOf(spans.get(0)) : Rational.ZERO;
        }
        if (support == spans.size()) {
            return held[1] ? hogOf(spans.get(support - 1)) : Rational.ZERO;
        }
        return hogOf(spans.get(support - 1)).lesser(hogOf(spans.get(support)));
    }

    private Rational timesOf(int span, int load) {
        Span s = spans.get(span);
        int x = s.loads.get(load)[0];
        Rational free = Rational.ZERO;
        for (int[] l : s.loads) {
            long top = x <= l[0] ? (long) l[1] * (s.length - l[0]) * x : (long) l[1] * l[0] * (s.length - x);
            free = free.plus(Rational.of(top, s.length));
        }
        Rational bending = highOf(s.section, 0)
                .plus(hogAt(span).by(Rational.of(s.length - x, s.length)))
                .plus(hogAt(span + 1).by(Rational.of(x, s.length)));
        return bending.over(free);
    }

    int times(int span, int load) {
        if (!has(spans, span) || !has(spans.get(span).loads, load)) {
            return no(1);
        }
        return say(timesOf(span, load));
    }

    /** The SPAN and LOAD of the least TIMES; null if there is no LOAD. */
    private int[] weakestOf() {
        int[] found = null;
        for (int i = 0; i < spans.size(); i++) {
            for (int k = 0; k < spans.get(i).loads.size(); k++) {
                if (found == null || timesOf(i, k).compareTo(timesOf(found[0], found[1])) < 0) {
                    found = new int[] {i, k};
                }
            }
        }
        return found;
    }

    int factor() {
        int[] weak = weakestOf();
        return weak == null ? no(6) : say(timesOf(weak[0], weak[1]));
    }

    int weakest() {
        int[] weak = weakestOf();
        return weak == null ? no(6) : ok(10 * weak[0] + weak[1]);
    }
}
