import java.util.Arrays;

/** Sections of stone with rods, the rods that make them safe, and beams of such sections. */
public final class RodBeam {
    public static final int NONE = -1;

    private static final int FINE = 0;
    private static final int NO_SUCH = 1;
    private static final int NO_NUMBER = 2;
    private static final int TOO_MANY = 3;
    private static final int NO_PUSH = 4;
    private static final int NEVER_SAFE = 5;
    private static final int NO_LOAD = 6;
    private static final int LOAD_THERE = 7;
    private static final int SO_ALREADY = 8;

    /** Answers where -1 would be taken for NONE: SAFE, and no SIZE chosen. */
    private static final int NOTHING = -2;

    private static final int SECTIONS = 4;
    private static final int MOST_BANDS = 8;
    private static final int MOST_RODS = 6;
    private static final int MOST_PAIRS = 8;
    private static final int MOST_SIZES = 4;
    private static final int MOST_SPANS = 5;
    private static final int MOST_LOADS = 2;
    private static final int ENDS = 2;

    private static final int TOP = 100;
    private static final int MOST_STONE = 50;
    private static final int MOST_WIDTH = 100;
    private static final int MOST_STRENGTH = 200;
    private static final int MOST_PRICE = 10_000;
    private static final int LEAST_LENGTH = 2;
    private static final int MOST_LENGTH = 50;
    private static final int MOST_WEIGHT = 1_000;
    private static final int FARTHEST = 1_000_000;

    private int latest = FINE;
    private final Text text = new Text();
    private final Section[] sections = new Section[SECTIONS];
    private final Pairs pairs = new Pairs();
    private final Sizes sizes = new Sizes();
    private final Beam beam = new Beam();
    private final Walk walk = new Walk();
    private final Chooser chooser = new Chooser();

    public RodBeam() {
        for (int i = 0; i < SECTIONS; i++) {
            sections[i] = new Section();
        }
    }

    public int status() {
        return latest;
    }

    public int out(int k) {
        return k >= 0 && k < text.length ? text.bytes[k] : NONE;
    }

    // ---- SECTIONS

    public boolean stone(int section, int f, int z) {
        if (!isSection(section)) {
            return deny(NO_SUCH);
        }
        if (!isFromTo(f, 1, MOST_STONE) || !isFromTo(z, 0, TOP)) {
            return deny(NO_NUMBER);
        }
        sections[section].begin(f, z);
        return allow();
    }

    public int band(int section, int width, int from, int to) {
        if (!isSection(section)) {
            return refuse(NO_SUCH);
        }
        if (!isFromTo(width, 1, MOST_WIDTH) || from < 0 || to > TOP || from >= to) {
            return refuse(NO_NUMBER);
        }
        Section s = sections[section];
        if (s.bands >= MOST_BANDS) {
            return refuse(TOO_MANY);
        }
        return give(s.addBand(width, from, to));
    }

    public int rod(int section, int height, int strength) {
        if (!isSection(section)) {
            return refuse(NO_SUCH);
        }
        if (!isFromTo(height, 0, TOP) || !isFromTo(strength, 0, MOST_STRENGTH)) {
            return refuse(NO_NUMBER);
        }
        Section s = sections[section];
        if (s.rods >= MOST_RODS) {
            return refuse(TOO_MANY);
        }
        return give(s.addRod(height, strength));
    }

    public boolean change(int section, int rod, int strength) {
        if (!isRod(section, rod)) {
            return deny(NO_SUCH);
        }
        if (!isFromTo(strength, 0, MOST_STRENGTH)) {
            return deny(NO_NUMBER);
        }
        sections[section].rodStrength[rod] = strength;
        return allow();
    }

    public int told(int section, int what) {
        if (!isSection(section)) {
            return refuse(NO_SUCH);
        }
        Section s = sections[section];
        switch (what) {
            case 0:
                return give(s.stoneStrength);
            case 1:
                return give(s.middle);
            case 2:
                return give(s.bands);
            case 3:
                return give(s.rods);
            case 4:
                return give(s.area());
            case 5:
                return give(s.stonePush + s.rodsTogether());
            case 6:
                return give(-s.rodsTogether());
            default:
                return refuse(NO_NUMBER);
        }
    }

    public int strength(int section, int rod) {
        if (!isRod(section, rod)) {
            return refuse(NO_SUCH);
        }
        return give(sections[section].rodStrength[rod]);
    }

    public int width(int section, int height) {
        if (!isSection(section)) {
            return refuse(NO_SUCH);
        }
        if (!isFromTo(height, 0, TOP - 1)) {
            return refuse(NO_NUMBER);
        }
        return give(sections[section].widthAbove(height));
    }

    public int bend(int section, int n, boolean high) {
        int why = walkTo(section, n, high);
        return why == FINE ? giveShare(walk.bent) : refuse(why);
    }

    public int cut(int section, int n, boolean top) {
        int why = walkTo(section, n, top);
        return why == FINE ? giveShare(walk.reached) : refuse(why);
    }

    public int borne(int section, int n, int m) {
        if (!isSection(section)) {
            return refuse(NO_SUCH);
        }
        if (!isNear(n) || !isNear(m)) {
            return refuse(NO_NUMBER);
        }
        return give(bears(sections[section], n, m) ? 1 : 0);
    }

    // ---- PAIRS and SIZES

    public int pair(int n, int m) {
        if (!isNear(n) || !isNear(m)) {
            return refuse(NO_NUMBER);
        }
        if (pairs.count >= MOST_PAIRS) {
            return refuse(TOO_MANY);
        }
        forgetBests();
        return give(pairs.add(n, m));
    }

    public boolean clear() {
        forgetBests();
        pairs.count = 0;
        return allow();
    }

    public int safe(int section) {
        if (!isSection(section)) {
            return refuse(NO_SUCH);
        }
        for (int i = 0; i < pairs.count; i++) {
            if (!bears(sections[section], pairs.push[i], pairs.bending[i])) {
                return give(i);
            }
        }
        return give(NOTHING);
    }

    public int size(int strength, int price) {
        if (!isFromTo(strength, 1, MOST_STRENGTH) || !isFromTo(price, 1, MOST_PRICE)) {
            return refuse(NO_NUMBER);
        }
        if (sizes.count >= MOST_SIZES) {
            return refuse(TOO_MANY);
        }
        forgetBests();
        return give(sizes.add(strength, price));
    }

    public int best(int section) {
        if (!isSection(section)) {
            return refuse(NO_SUCH);
        }
        Section s = sections[section];
        return chooser.findBest(s, pairs, sizes) ? give(s.bestPrice) : refuse(NEVER_SAFE);
    }

    public int chosen(int section, int rod) {
        if (!isRod(section, rod)) {
            return refuse(NO_SUCH);
        }
        Section s = sections[section];
        return chooser.findBest(s, pairs, sizes) ? give(s.bestPick[rod]) : refuse(NEVER_SAFE);
    }

    public int take(int section) {
        if (!isSection(section)) {
            return refuse(NO_SUCH);
        }
        Section s = sections[section];
        return chooser.findBest(s, pairs, sizes) ? give(carryOut(s)) : refuse(NEVER_SAFE);
    }

    // ---- the BEAM

    public int span(int length, int section) {
        if (!isSection(section)) {
            return refuse(NO_SUCH);
        }
        if (!isFromTo(length, LEAST_LENGTH, MOST_LENGTH)) {
            return refuse(NO_NUMBER);
        }
        if (beam.count >= MOST_SPANS) {
            return refuse(TOO_MANY);
        }
        return give(beam.addSpan(length, section));
    }

    public boolean away() {
        beam.count = 0;
        return allow();
    }

    public boolean hold(int end, boolean is) {
        if (!isFromTo(end, 0, ENDS - 1)) {
            return deny(NO_NUMBER);
        }
        if (beam.held[end] == is) {
            return deny(SO_ALREADY);
        }
        beam.held[end] = is;
        return allow();
    }

    public int load(int span, int place, int weight) {
        if (!isSpan(span)) {
            return refuse(NO_SUCH);
        }
        Span s = beam.spans[span];
        if (!isFromTo(place, 1, s.length - 1) || !isFromTo(weight, 1, MOST_WEIGHT)) {
            return refuse(NO_NUMBER);
        }
        if (s.loads >= MOST_LOADS) {
            return refuse(TOO_MANY);
        }
        if (s.hasLoadAt(place)) {
            return refuse(LOAD_THERE);
        }
        return give(s.addLoad(place, weight));
    }

    public int times(int span, int load) {
        if (!isSpan(span) || !isFromTo(load, 0, beam.spans[span].loads - 1)) {
            return refuse(NO_SUCH);
        }
        beam.reckon(sections, span, load);
        return giveRatio(beam.here);
    }

    public int factor() {
        if (!beam.reckonLeast(sections)) {
            return refuse(NO_LOAD);
        }
        return giveRatio(beam.least);
    }

    public int weakest() {
        if (!beam.reckonLeast(sections)) {
            return refuse(NO_LOAD);
        }
        return give(10 * beam.leastSpan + beam.leastLoad);
    }

    // ---- what the calls share

    private int refuse(int why) {
        latest = why;
        return NONE;
    }

    private boolean deny(int why) {
        latest = why;
        return false;
    }

    private int give(int answer) {
        latest = FINE;
        return answer;
    }

    private boolean allow() {
        latest = FINE;
        return true;
    }

    private int giveShare(Share share) {
        text.writeShare(share);
        return give(text.length);
    }

    private int giveRatio(Ratio ratio) {
        text.writeRatio(false, ratio);
        return give(text.length);
    }

    private boolean isSection(int section) {
        return isFromTo(section, 0, SECTIONS - 1);
    }

    private boolean isRod(int section, int rod) {
        return isSection(section) && isFromTo(rod, 0, sections[section].rods - 1);
    }

    private boolean isSpan(int span) {
        return isFromTo(span, 0, beam.count - 1);
    }

    private static boolean isFromTo(int number, int least, int most) {
        return number >= least && number <= most;
    }

    private static boolean isNear(int number) {
        return isFromTo(number, -FARTHEST, FARTHEST);
    }

    /** The STATUS of a walk to PUSH n; if FINE, the walk holds the BEND and the CUT. */
    private int walkTo(int section, int n, boolean high) {
        if (!isSection(section)) {
            return NO_SUCH;
        }
        if (!isNear(n)) {
            return NO_NUMBER;
        }
        Section s = sections[section];
        walk.arm(s, s.rodStrength);
        if (!walk.reaches(n)) {
            return NO_PUSH;
        }
        walk.fill(s, n, high);
        return FINE;
    }

    private boolean bears(Section s, int n, int m) {
        walk.arm(s, s.rodStrength);
        return walk.bearsOn(s, n, m, true) && walk.bearsOn(s, n, m, false);
    }

    private void forgetBests() {
        for (int i = 0; i < SECTIONS; i++) {
            sections[i].bestKnown = false;
        }
    }

    private int carryOut(Section s) {
        int changed = 0;
        for (int r = 0; r < s.rods; r++) {
            int strength = sizes.strengthOf(s.bestPick[r]);
            if (s.rodStrength[r] != strength) {
                s.rodStrength[r] = strength;
                changed++;
            }
        }
        return changed;
    }

    private static long commonDivisor(long a, long b) {
        long greater = Math.abs(a);
        long lesser = Math.abs(b);
        // Euclid's way takes fewer than 100 steps for any two longs.
        for (int i = 0; i < 100 && lesser != 0; i++) {
            long rest = greater % lesser;
            greater = lesser;
            lesser = rest;
        }
        return greater;
    }

    /** A SECTION, and the heights at which its width or its RODS change. */
    private static final class Section {
        static final int MOST_EDGES = 2 + 2 * MOST_BANDS + MOST_RODS;

        int stoneStrength;
        int middle;
        /** What all STONE pushes when it is pushed with f. */
        int stonePush;
        int bands;
        final int[] bandWidth = new int[MOST_BANDS];
        final int[] bandFrom = new int[MOST_BANDS];
        final int[] bandTo = new int[MOST_BANDS];
        int rods;
        final int[] rodHeight = new int[MOST_RODS];
        final int[] rodStrength = new int[MOST_RODS];
        /** Edges from the foot up; between two of them the width stays the same. */
        int edges;
        final int[] edge = new int[MOST_EDGES];
        /** What 1 of height above an edge pushes when its STONE is pushed with f. */
        final int[] density = new int[MOST_EDGES];
        final int[] edgeOfRod = new int[MOST_RODS];
        /** BEST as it was last found, a SIZE or NOTHING for each ROD, and whether it still holds. */
        boolean bestKnown = false;
        boolean bestPossible = false;
        int bestPrice = 0;
        final int[] bestPick = new int[MOST_RODS];

        Section() {
            begin(10, 50);
        }

        void begin(int f, int z) {
            stoneStrength = f;
            middle = z;
            bands = 0;
            rods = 0;
            findEdges();
        }

        int addBand(int width, int from, int to) {
            bandWidth[bands] = width;
            bandFrom[bands] = from;
            bandTo[bands] = to;
            bands++;
            findEdges();
            return bands - 1;
        }

        int addRod(int height, int strength) {
            rodHeight[rods] = height;
            rodStrength[rods] = strength;
            rods++;
            findEdges();
            return rods - 1;
        }

        int area() {
            int sum = 0;
            for (int b = 0; b < bands; b++) {
                sum += bandWidth[b] * (bandTo[b] - bandFrom[b]);
            }
            return sum;
        }

        int rodsTogether() {
            int sum = 0;
            for (int r = 0; r < rods; r++) {
                sum += rodStrength[r];
            }
            return sum;
        }

        int widthAbove(int height) {
            int sum = 0;
            for (int b = 0; b < bands; b++) {
                if (bandFrom[b] <= height && height < bandTo[b]) {
                    sum += bandWidth[b];
                }
            }
            return sum;
        }

        private void findEdges() {
            bestKnown = false;
            stonePush = stoneStrength * area();
            edges = 0;
            for (int y = 0; y <= TOP && edges < MOST_EDGES; y++) {
                if (isEdge(y)) {
                    edge[edges] = y;
                    density[edges] = stoneStrength * widthAbove(y);
                    placeRods(y, edges);
                    edges++;
                }
            }
        }

        private boolean isEdge(int y) {
            boolean is = y == 0 || y == TOP;
            for (int b = 0; b < bands && !is; b++) {
                is = bandFrom[b] == y || bandTo[b] == y;
            }
            for (int r = 0; r < rods && !is; r++) {
                is = rodHeight[r] == y;
            }
            return is;
        }

        private void placeRods(int y, int at) {
            for (int r = 0; r < rods; r++) {
                if (rodHeight[r] == y) {
                    edgeOfRod[r] = at;
                }
            }
        }
    }

    /**
     * Finds HIGH and LOW: from the STATE of LEAST, where all RODS pull, pushes are added from the
     * top (or the foot) on until the PUSH is N. Where that ends lies the CUT.
     */
    private static final class Walk {
        /** HIGH or LOW, and the CUT, as the walk found them: they may have a common divisor. */
        final Share bent = new Share();
        final Share reached = new Share();
        /** What the RODS at an edge can add, from pull to push. */
        private final int[] room = new int[Section.MOST_EDGES];
        private int leastPush = 0;
        private int mostPush = 0;
        /** Twice the BEND of the STATE of LEAST. */
        private long startTwice = 0;

        void arm(Section s, int[] strengths) {
            int together = 0;
            long bending = 0;
            Arrays.fill(room, 0);
            for (int r = 0; r < s.rods; r++) {
                room[s.edgeOfRod[r]] += 2 * strengths[r];
                together += strengths[r];
                bending -= (long) strengths[r] * (s.rodHeight[r] - s.middle);
            }
            leastPush = -together;
            mostPush = s.stonePush + together;
            startTwice = 2 * bending;
        }

        boolean reaches(int n) {
            return leastPush <= n && n <= mostPush;
        }

        /** Whether M is not above HIGH (N), or not below LOW (N); false if N can't be reached. */
        boolean bearsOn(Section s, int n, int m, boolean high) {
            if (!reaches(n)) {
                return false;
            }
            fill(s, n, high);
            long asked = m * bent.bottom;
            return high ? asked <= bent.top : asked >= bent.top;
        }

        void fill(Section s, int n, boolean high) {
            long rest = (long) n - leastPush;
            long twice = startTwice;
            int y = 0;
            long push = 1;
            boolean ended = false;
            for (int k = 0; k < s.edges && !ended; k++) {
                int at = high ? s.edges - 1 - k : k;
                int next = high ? at - 1 : at + 1;
                y = s.edge[at];
                long added = Math.min(rest, room[at]);
                twice += 2 * added * (y - s.middle);
                rest -= added;
                ended = rest <= 0 || next < 0 || next >= s.edges;
                if (!ended) {
                    int density = s.density[Math.min(at, next)];
                    long full = (long) density * Math.abs(s.edge[next] - y);
                    ended = rest <= full;
                    if (ended) {
                        push = density;
                    } else {
                        twice += full * (y + s.edge[next] - 2 * s.middle);
                        rest -= full;
                    }
                }
            }
            // The last piece of STONE is rest by push deep, so its middle half of that off y.
            long way = high ? -rest : rest;
            twice += 2 * rest * (y - s.middle);
            bent.top = twice * push + way * rest;
            bent.bottom = 2 * push;
            reached.top = y * push + way;
            reached.bottom = push;
        }
    }

    private static final class Pairs {
        int count = 0;
        final int[] push = new int[MOST_PAIRS];
        final int[] bending = new int[MOST_PAIRS];

        int add(int n, int m) {
            push[count] = n;
            bending[count] = m;
            count++;
            return count - 1;
        }
    }

    private static final class Sizes {
        int count = 0;
        private final int[] strengths = new int[MOST_SIZES];
        private final int[] prices = new int[MOST_SIZES];

        int add(int strength, int price) {
            strengths[count] = strength;
            prices[count] = price;
            count++;
            return count - 1;
        }

        int strengthOf(int number) {
            return number >= 0 && number < count ? strengths[number] : 0;
        }

        int priceOf(int number) {
            return number >= 0 && number < count ? prices[number] : 0;
        }

        int strongest() {
            int most = 0;
            for (int i = 0; i < count; i++) {
                most = Math.max(most, strengths[i]);
            }
            return most;
        }

        /** Whether another SIZE does all that this one does and goes ahead of it in BEST. */
        boolean isIdle(int number) {
            int price = priceOf(number);
            int strength = strengthOf(number);
            boolean idle = false;
            for (int i = 0; i < count && !idle; i++) {
                boolean ahead = prices[i] < price || prices[i] == price && i < number;
                idle = ahead && strengths[i] >= strength;
            }
            return idle;
        }
    }

    /**
     * Searches BEST in the document's order of choices. A stronger ROD never takes away a pair
     * that was borne, so a beginning is left as soon as the strongest RODS behind it don't help.
     */
    private static final class Chooser {
        private static final int MOST_ASKS = 2 * MOST_PAIRS;

        private final Walk walk = new Walk();
        /** The sides (HIGH or LOW) of PAIRS that STONE alone doesn't bear. */
        private int asks = 0;
        private final int[] askPush = new int[MOST_ASKS];
        private final int[] askBending = new int[MOST_ASKS];
        private final boolean[] askHigh = new boolean[MOST_ASKS];
        private int strongest = 0;
        private final int[] trial = new int[MOST_RODS];
        private final int[] pick = new int[MOST_RODS];

        /**
         * Whether the SECTION has a BEST, which it then holds. BEST hangs on no strength of the
         * RODS, so it is kept until something else changes.
         */
        boolean findBest(Section s, Pairs pairs, Sizes sizes) {
            if (s.bestKnown) {
                return s.bestPossible;
            }
            Arrays.fill(trial, 0);
            listAsks(s, pairs);
            strongest = sizes.strongest();
            Arrays.fill(trial, strongest);
            s.bestKnown = true;
            s.bestPossible = false;
            s.bestPrice = MOST_RODS * MOST_PRICE + 1;
            if (bearsAll(s)) {
                choose(s, sizes, 0, 0);
            }
            return s.bestPossible;
        }

        private void listAsks(Section s, Pairs pairs) {
            asks = 0;
            walk.arm(s, trial);
            for (int i = 0; i < pairs.count; i++) {
                listAsk(s, pairs.push[i], pairs.bending[i], true);
                listAsk(s, pairs.push[i], pairs.bending[i], false);
            }
        }

        private void listAsk(Section s, int n, int m, boolean high) {
            if (asks < MOST_ASKS && !walk.bearsOn(s, n, m, high)) {
                askPush[asks] = n;
                askBending[asks] = m;
                askHigh[asks] = high;
                asks++;
            }
        }

        private boolean bearsAll(Section s) {
            walk.arm(s, trial);
            for (int i = 0; i < asks; i++) {
                if (!walk.bearsOn(s, askPush[i], askBending[i], askHigh[i])) {
                    putFirst(i);
                    return false;
                }
            }
            return true;
        }

        /** What has just failed most often fails the next trial too. */
        private void putFirst(int i) {
            int n = askPush[i];
            int m = askBending[i];
            boolean high = askHigh[i];
            askPush[i] = askPush[0];
            askBending[i] = askBending[0];
            askHigh[i] = askHigh[0];
            askPush[0] = n;
            askBending[0] = m;
            askHigh[0] = high;
        }

        /** RODS before at are chosen, the others the strongest, and with these all is borne. */
        private void choose(Section s, Sizes sizes, int at, int price) {
            if (at >= s.rods || at >= MOST_RODS) {
                keep(s, price);
                return;
            }
            attempt(s, sizes, at, price, NOTHING);
            for (int number = 0; number < sizes.count; number++) {
                attempt(s, sizes, at, price, number);
            }
            trial[at] = strongest;
        }

        /** Of choices at one price the first found stays, as it is the first in order. */
        private void attempt(Section s, Sizes sizes, int at, int price, int number) {
            int together = price + sizes.priceOf(number);
            if (together >= s.bestPrice || sizes.isIdle(number)) {
                return;
            }
            pick[at] = number;
            trial[at] = sizes.strengthOf(number);
            if (trial[at] == strongest || bearsAll(s)) {
                choose(s, sizes, at + 1, together);
            }
        }

        private void keep(Section s, int price) {
            s.bestPossible = true;
            s.bestPrice = price;
            System.arraycopy(pick, 0, s.bestPick, 0, MOST_RODS);
        }
    }

    private static final class Span {
        int length = LEAST_LENGTH;
        int section = 0;
        int loads = 0;
        final int[] place = new int[MOST_LOADS];
        final int[] weight = new int[MOST_LOADS];

        boolean hasLoadAt(int where) {
            boolean has = false;
            for (int i = 0; i < loads; i++) {
                has = has || place[i] == where;
            }
            return has;
        }

        int addLoad(int where, int heavy) {
            place[loads] = where;
            weight[loads] = heavy;
            loads++;
            return loads - 1;
        }

        /** FREE at x, times the length. */
        long freeTimesLength(int x) {
            long sum = 0;
            for (int i = 0; i < loads; i++) {
                int before = Math.min(x, place[i]);
                int behind = length - Math.max(x, place[i]);
                sum += (long) weight[i] * before * behind;
            }
            return sum;
        }
    }

    private static final class Beam {
        int count = 0;
        final Span[] spans = new Span[MOST_SPANS];
        final boolean[] held = new boolean[ENDS];
        final Ratio here = new Ratio();
        final Ratio least = new Ratio();
        int leastSpan = 0;
        int leastLoad = 0;
        private final Walk walk = new Walk();
        private final Share sum = new Share();
        private final Share left = new Share();
        private final Share right = new Share();
        private final Share other = new Share();

        Beam() {
            for (int i = 0; i < MOST_SPANS; i++) {
                spans[i] = new Span();
            }
        }

        int addSpan(int length, int section) {
            spans[count].length = length;
            spans[count].section = section;
            spans[count].loads = 0;
            count++;
            return count - 1;
        }

        /** FACTOR, and the first LOAD that has it; false if there is no LOAD. */
        boolean reckonLeast(Section[] sections) {
            boolean found = false;
            for (int i = 0; i < count; i++) {
                for (int k = 0; k < spans[i].loads; k++) {
                    reckon(sections, i, k);
                    if (!found || here.isUnder(least)) {
                        found = true;
                        least.copy(here);
                        leastSpan = i;
                        leastLoad = k;
                    }
                }
            }
            return found;
        }

        /** TIMES of a LOAD, both its top and its bottom first taken times the length. */
        void reckon(Section[] sections, int number, int load) {
            Span span = spans[number];
            int x = span.place[load];
            putSag(sections[span.section], sum);
            putSupport(sections, number, left);
            putSupport(sections, number + 1, right);
            sum.scale(span.length);
            left.scale(span.length - x);
            right.scale(x);
            sum.plus(left);
            here.putSum(sum, right);
            here.divide(span.freeTimesLength(x));
        }

        private void putSag(Section s, Share into) {
            walk.arm(s, s.rodStrength);
            walk.fill(s, 0, true);
            into.put(walk.bent.top, walk.bent.bottom);
        }

        private void putHog(Section s, Share into) {
            walk.arm(s, s.rodStrength);
            walk.fill(s, 0, false);
            into.put(-walk.bent.top, walk.bent.bottom);
        }

        /** HOG of the support at the left of a SPAN, or at the right end of the BEAM. */
        private void putSupport(Section[] sections, int support, Share into) {
            boolean first = support <= 0;
            boolean last = support >= count;
            if (first && !held[0] || last && !held[1]) {
                into.put(0, 1);
                return;
            }
            putHog(sections[spans[first ? 0 : support - 1].section], into);
            if (!first && !last) {
                putHog(sections[spans[support].section], other);
                if (other.isUnder(into)) {
                    into.put(other.top, other.bottom);
                }
            }
        }
    }

    /** A fraction, its bottom above 0. */
    private static final class Share {
        long top = 0;
        long bottom = 1;

        void put(long t, long b) {
            top = t;
            bottom = b;
        }

        void shorten() {
            long common = commonDivisor(top, bottom);
            if (common > 1) {
                top /= common;
                bottom /= common;
            }
        }

        /** The factor is a way in a SPAN, of at most 50. */
        void scale(long factor) {
            top *= factor;
            shorten();
        }

        /**
         * BENDS without PUSH go to 120,000, as at most 1,200 pulls over a height of 100, and their
         * bottoms to 80,000: two of them, scaled, are added without an overflow, three not.
         */
        void plus(Share o) {
            top = top * o.bottom + o.top * bottom;
            bottom *= o.bottom;
            shorten();
        }

        boolean isUnder(Share o) {
            return top * o.bottom < o.top * bottom;
        }
    }

    /** A fraction from 0 on whose top and bottom may be longer than a long. */
    private static final class Ratio {
        final Whole top = new Whole();
        final Whole bottom = new Whole();
        private final Whole one = new Whole();
        private final Whole two = new Whole();
        private final Whole three = new Whole();

        void put(long t, long b) {
            top.put(t);
            bottom.put(b);
        }

        void copy(Ratio o) {
            top.copy(o.top);
            bottom.copy(o.bottom);
        }

        /**
         * The sum of two fractions, both shortened. A divisor that its top has in common with its
         * bottom divides what the two bottoms have in common, so that no long numbers need be
         * tried for one.
         */
        void putSum(Share a, Share b) {
            long shared = Math.max(1, commonDivisor(a.bottom, b.bottom));
            one.put(a.top);
            two.put(b.bottom / shared);
            top.product(one, two);
            one.put(b.top);
            two.put(a.bottom / shared);
            three.product(one, two);
            top.plus(three);
            long common = Math.max(1, commonDivisor(shared, top.restBy(shared)));
            top.divide(common);
            one.put(a.bottom / shared);
            two.put(b.bottom / common);
            bottom.product(one, two);
        }

        /** Top and bottom had nothing in common, so only the divisor can share with the top. */
        void divide(long by) {
            long common = Math.max(1, commonDivisor(by, top.restBy(by)));
            top.divide(common);
            one.put(by / common);
            two.copy(bottom);
            bottom.product(one, two);
        }

        boolean isUnder(Ratio o) {
            one.product(top, o.bottom);
            two.product(o.top, bottom);
            return one.isUnder(two);
        }
    }

    /**
     * A whole number from 0 on, in digits of a thousand million each. TIMES has up to 22 figures
     * above and below, and two of them are compared by products of up to 43: six digits hold all.
     */
    private static final class Whole {
        static final int DIGITS = 6;
        static final long BASE = 1_000_000_000L;

        final long[] digit = new long[DIGITS];

        void put(long value) {
            long rest = value;
            for (int i = 0; i < DIGITS; i++) {
                digit[i] = rest % BASE;
                rest /= BASE;
            }
        }

        void copy(Whole o) {
            System.arraycopy(o.digit, 0, digit, 0, DIGITS);
        }

        void plus(Whole o) {
            long carry = 0;
            for (int i = 0; i < DIGITS; i++) {
                long sum = digit[i] + o.digit[i] + carry;
                digit[i] = sum % BASE;
                carry = sum / BASE;
            }
        }

        /** This becomes the product of two others. */
        void product(Whole a, Whole b) {
            Arrays.fill(digit, 0);
            for (int i = 0; i < DIGITS; i++) {
                long carry = 0;
                for (int k = 0; i + k < DIGITS; k++) {
                    long sum = digit[i + k] + a.digit[i] * b.digit[k] + carry;
                    digit[i + k] = sum % BASE;
                    carry = sum / BASE;
                }
            }
        }

        /** The divisor is at most some nine thousand million, or the steps would overflow. */
        long restBy(long divisor) {
            long rest = 0;
            for (int i = DIGITS - 1; i >= 0 && divisor > 0; i--) {
                rest = (rest * BASE + digit[i]) % divisor;
            }
            return rest;
        }

        void divide(long divisor) {
            long rest = 0;
            for (int i = DIGITS - 1; i >= 0 && divisor > 0; i--) {
                long value = rest * BASE + digit[i];
                digit[i] = value / divisor;
                rest = value % divisor;
            }
        }

        boolean isUnder(Whole o) {
            int i = DIGITS - 1;
            while (i > 0 && digit[i] == o.digit[i]) {
                i--;
            }
            return digit[i] < o.digit[i];
        }
    }

    /** OUT. */
    private static final class Text {
        private static final int MOST_BYTES = 2 + 2 * 9 * Whole.DIGITS;

        int length = 0;
        final int[] bytes = new int[MOST_BYTES];
        private final Ratio ratio = new Ratio();

        void writeShare(Share share) {
            share.shorten();
            ratio.put(Math.abs(share.top), share.bottom);
            writeRatio(share.top < 0, ratio);
        }

        void writeRatio(boolean below, Ratio what) {
            length = 0;
            if (below) {
                write('-');
            }
            writeWhole(what.top);
            write('/');
            writeWhole(what.bottom);
        }

        private void writeWhole(Whole whole) {
            boolean begun = false;
            for (int i = Whole.DIGITS - 1; i >= 0; i--) {
                for (long ten = Whole.BASE / 10; ten > 0; ten /= 10) {
                    long figure = whole.digit[i] / ten % 10;
                    begun = begun || figure != 0 || i == 0 && ten == 1;
                    if (begun) {
                        write((char) ('0' + figure));
                    }
                }
            }
        }

        private void write(char sign) {
            if (length < MOST_BYTES) {
                bytes[length] = sign;
                length++;
            }
        }
    }
}
