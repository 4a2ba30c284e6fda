import java.util.Arrays;

/** Pits with rows of leaves of mud, a leaf a year: ../shared/DOC.md says what each call answers. */
public final class LeavesOfMud {
    public static final int NONE = -1;
    public static final int UNKNOWN = -101;
    public static final int OUTSIDE = -102;
    public static final int STATE = -103;
    public static final int FULL = -104;

    private static final int WIDE_UNKNOWN = -100001;
    private static final int WIDE_OUTSIDE = -100002;
    private static final int WIDE_STATE = -100003;
    private static final int WIDE_NONE = -100004;

    private static final int LEAF = 0;
    private static final int WARM = 1;
    private static final int HALF = 3;
    private static final int FLOOD = 4;
    private static final int ASH = 5;
    private static final int SLUMP = 6;
    private static final int KINDS = 7;

    private static final int MOST_PITS = 7;
    private static final int MOST_LEAVES = 16;
    private static final int MOST_MILES = 240;
    private static final int MOST_THICKNESS = 99;
    private static final int MOST_N = 9;
    private static final int MOST_SLIDE = 15;
    private static final int MOST_JOINS = 12;
    private static final int MOST_TEXTS = 4;
    private static final int MOST_SURE = 100;
    private static final int MOST_DIG = 8;
    private static final int WIDEST_DIG = 40;

    private static final int SORT_HAND = 0;
    private static final int SORT_LAW = 1;

    private final Pits pits = new Pits();
    private final Bonds bonds = new Bonds();
    private final Pits imagePits = new Pits();
    private final Bonds imageBonds = new Bonds();
    private boolean imageKept = false;
    private final Page page = new Page();
    private final Hands hands = new Hands(pits);
    private final Laws laws = new Laws();
    private final Slides slides = new Slides(pits);
    private final Pairing pairing = new Pairing(pits, laws);
    private final Net net = new Net(pits, hands, bonds);
    private int sureDone = 0;
    private int digDone = 0;

    public LeavesOfMud() {
    }

    // ---- pits

    public int pit(int miles) {
        if (!isWithin(miles, 0, MOST_MILES)) {
            return OUTSIDE;
        }
        if (pits.size >= MOST_PITS) {
            return FULL;
        }
        return pits.open(miles);
    }

    public int leaf(int pit, int kind, int thickness, int n) {
        if (!pits.has(pit)) {
            return UNKNOWN;
        }
        if (!isLeafAsTold(kind, thickness, n)) {
            return OUTSIDE;
        }
        if (pits.sizes[pit] >= MOST_LEAVES) {
            return FULL;
        }
        pits.push(pit, kind, thickness, n);
        return pits.sizes[pit];
    }

    public int as(int pit, int leaf, int kind) {
        if (!pits.hasLeaf(pit, leaf)) {
            return UNKNOWN;
        }
        if (!isWithin(kind, 0, KINDS - 1)) {
            return OUTSIDE;
        }
        return isOfKind(pits.kindOf(pit, leaf), kind) ? leaf : NONE;
    }

    public int about(int pit, int leaf, int what) {
        if (!pits.has(pit)) {
            return UNKNOWN;
        }
        if (leaf == NONE) {
            return aboutPit(pit, what);
        }
        if (!pits.hasLeaf(pit, leaf)) {
            return UNKNOWN;
        }
        return aboutLeaf(pit, leaf, what);
    }

    public int change(int pit, int leaf, int kind, int thickness, int n) {
        if (!pits.hasLeaf(pit, leaf)) {
            return UNKNOWN;
        }
        if (!isLeafAsTold(kind, thickness, n)) {
            return OUTSIDE;
        }
        int before = pits.thicknessOf(pit, leaf);
        pits.put(pit, leaf, kind, thickness, n);
        return before;
    }

    public int lay(int pit, int seed, int years, int p, int q) {
        if (!pits.has(pit)) {
            return UNKNOWN;
        }
        if (seed < 0 || !isWithin(years, 1, 20) || !isWithin(p, 0, 99) || !isWithin(q, 0, 99)) {
            return OUTSIDE;
        }
        long next = seed;
        for (int year = 0; year < years; year++) {
            next = seedAfter(next);
            int w = drawn(next, 40);
            next = seedAfter(next);
            int e = drawn(next, 6);
            next = seedAfter(next);
            int x = drawn(next, 100);
            if (x >= p + q) {
                pits.push(pit, w > 34 ? WARM : LEAF, 5 + w + e, 0);
            } else if (x >= p) {
                pits.push(pit, HALF, 3 + w, 0);
                pits.push(pit, HALF, 2 + e, 0);
            }
        }
        return pits.sizes[pit];
    }

    // ---- texts

    public int letters(long w) {
        int more = lettersIn(w);
        if (more == OUTSIDE) {
            return OUTSIDE;
        }
        if (page.size + more > Page.MOST) {
            return FULL;
        }
        for (int i = 0; i < more; i++) {
            page.write(byteOf(w, i));
        }
        return page.size;
    }

    public int blank() {
        int before = page.size;
        page.size = 0;
        return before;
    }

    public int fault(int sort) {
        if (sort != SORT_HAND && sort != SORT_LAW) {
            return OUTSIDE;
        }
        return page.read(sort);
    }

    public int hand() {
        page.read(SORT_HAND);
        if (!page.whole) {
            return STATE;
        }
        if (hands.size >= MOST_TEXTS) {
            return FULL;
        }
        page.size = 0;
        return hands.take(page.told);
    }

    public int law() {
        page.read(SORT_LAW);
        if (!page.whole) {
            return STATE;
        }
        if (laws.size >= MOST_TEXTS) {
            return FULL;
        }
        page.size = 0;
        return laws.take(page.told);
    }

    // ---- counts

    public int at(int hand, int pit, int leaf) {
        if (!hands.has(hand) || !pits.has(pit) || !isWithin(leaf, 0, pits.sizes[pit])) {
            return UNKNOWN;
        }
        return hands.yearsAhead(hand, pit, leaf);
    }

    public int years(int hand, int pit) {
        if (!hands.has(hand) || !pits.has(pit)) {
            return UNKNOWN;
        }
        return hands.yearsOfAll(hand, pit);
    }

    public int lean(int hand, int other) {
        if (!hands.has(hand) || !hands.has(other)) {
            return WIDE_UNKNOWN;
        }
        int lean = 0;
        for (int pit = 0; pit < pits.size; pit++) {
            lean += hands.yearsOfAll(hand, pit) - hands.yearsOfAll(other, pit);
        }
        return lean;
    }

    // ---- slides

    public int like(int a, int b, int k) {
        if (!pits.has(a) || !pits.has(b)) {
            return WIDE_UNKNOWN;
        }
        if (!isSlide(k)) {
            return WIDE_OUTSIDE;
        }
        if (slides.overOf(a, b, k) == 0) {
            return WIDE_NONE;
        }
        return slides.likeOf(a, b, k, 0);
    }

    public int over(int a, int b, int k) {
        if (!pits.has(a) || !pits.has(b)) {
            return UNKNOWN;
        }
        if (!isSlide(k)) {
            return OUTSIDE;
        }
        return slides.overOf(a, b, k);
    }

    public int slide(int a, int b, int m) {
        if (!pits.has(a) || !pits.has(b)) {
            return WIDE_UNKNOWN;
        }
        if (!isWithin(m, 1, MOST_LEAVES)) {
            return WIDE_OUTSIDE;
        }
        return slides.best(a, b, m);
    }

    public int chance(int a, int b, int k, int part) {
        if (!pits.has(a) || !pits.has(b)) {
            return UNKNOWN;
        }
        if (!isSlide(k) || !isWithin(part, 0, 1)) {
            return OUTSIDE;
        }
        if (slides.overOf(a, b, k) == 0) {
            return STATE;
        }
        return partInLowestTerms(slides.turnsAsLike(a, b, k), pits.sizes[b], part);
    }

    // ---- together

    public int together(int law, int a, int b, int what) {
        if (!laws.has(law) || !pits.has(a) || !pits.has(b)) {
            return UNKNOWN;
        }
        if (!isWithin(what, 0, 2) && !isWithin(what, 10, 9 + Pairing.MOST_STEPS)) {
            return OUTSIDE;
        }
        pairing.setTogether(law, a, b);
        if (what == 0) {
            return pairing.leastOfAll();
        }
        if (what == 1) {
            return pairing.waysOfAll();
        }
        pairing.goTheWay();
        return what == 2 ? pairing.wayLength : pairing.stepOfTheWay(what - 10);
    }

    public int lies(int law, int a, int b, int leaf) {
        if (!laws.has(law) || !pits.has(b) || !pits.hasLeaf(a, leaf)) {
            return UNKNOWN;
        }
        pairing.setTogether(law, a, b);
        pairing.goTheWay();
        return pairing.liesOn[leaf];
    }

    public int sure(int law, int a, int b, int leaf) {
        if (!laws.has(law) || !pits.has(b) || !pits.hasLeaf(a, leaf)) {
            return UNKNOWN;
        }
        if (sureDone >= MOST_SURE) {
            return STATE;
        }
        sureDone++;
        pairing.setTogether(law, a, b);
        pairing.goTheWay();
        if (pairing.liesBy[leaf] != Pairing.ONE_ON_ONE) {
            return NONE;
        }
        int least = pairing.leastOfAll();
        return pairing.leastWithout(leaf, pairing.liesOn[leaf]) - least;
    }

    // ---- the net

    public int join(int a, int b, int low, int high, int doubt) {
        if (!pits.has(a) || !pits.has(b) || a == b) {
            return UNKNOWN;
        }
        if (!isRange(low, high, 999) || !isWithin(doubt, 0, 99)) {
            return OUTSIDE;
        }
        if (bonds.joins >= MOST_JOINS) {
            return FULL;
        }
        return bonds.addJoin(a, b, low, high, doubt);
    }

    public int keep(int join, boolean is) {
        if (!isWithin(join, 0, bonds.joins - 1)) {
            return UNKNOWN;
        }
        int before = asNumber(bonds.isKept(join));
        bonds.setKept(join, is);
        return before;
    }

    public int tie(int pit, int low, int high) {
        if (!pits.has(pit)) {
            return UNKNOWN;
        }
        if (!isRange(low, high, 9999)) {
            return OUTSIDE;
        }
        int before = asNumber(bonds.isTied(pit));
        bonds.setTie(pit, low, high);
        return before;
    }

    public int untie(int pit) {
        if (!pits.has(pit)) {
            return UNKNOWN;
        }
        int before = asNumber(bonds.isTied(pit));
        bonds.dropTie(pit);
        return before;
    }

    public int ashes(boolean are) {
        int before = asNumber(bonds.ashesCount);
        bonds.ashesCount = are;
        return before;
    }

    public int closes() {
        return asNumber(net.weaveWhole());
    }

    public int span(int a, int b, int end) {
        if (!pits.has(a) || !pits.has(b)) {
            return WIDE_UNKNOWN;
        }
        if (!isWithin(end, 0, 1)) {
            return WIDE_OUTSIDE;
        }
        if (!net.weaveWhole()) {
            return WIDE_STATE;
        }
        return spanTold(a, b, end);
    }

    public int date(int pit, int leaf, int end) {
        if (!pits.hasLeaf(pit, leaf)) {
            return WIDE_UNKNOWN;
        }
        if (!isWithin(end, 0, 1)) {
            return WIDE_OUTSIDE;
        }
        if (!net.weaveWhole()) {
            return WIDE_STATE;
        }
        if (net.isFloating(Net.YEAR_ZERO, pit)) {
            return WIDE_NONE;
        }
        return net.endOfSpan(Net.YEAR_ZERO, pit, end) + hands.yearsAhead(NONE, pit, leaf);
    }

    public int calendars(int what) {
        if (!isWithin(what, 0, 1)) {
            return OUTSIDE;
        }
        net.group();
        return what == 0 ? net.groups() : net.groupOfFirst();
    }

    public int castOut() {
        return net.leastCast();
    }

    public int hangs(int a, int b) {
        if (!pits.has(a) || !pits.has(b)) {
            return UNKNOWN;
        }
        if (!net.weaveWhole() || net.isFloating(a, b)) {
            return STATE;
        }
        return net.joinsThatHold(a, b);
    }

    public int dig(int what) {
        if (!isWithin(what, 0, 2)) {
            return OUTSIDE;
        }
        if (digDone >= MOST_DIG || !net.weaveWhole()) {
            return STATE;
        }
        digDone++;
        net.findDig();
        if (what == 0) {
            return net.digA;
        }
        return what == 1 ? net.digB : net.digWorst;
    }

    // ---- ice, floods

    public int pace(int a, int b, int end, int part) {
        if (!pits.has(a) || !pits.has(b)) {
            return UNKNOWN;
        }
        if (!isWithin(end, 0, 1) || !isWithin(part, 0, 1)) {
            return OUTSIDE;
        }
        int miles = Math.abs(pits.miles[a] - pits.miles[b]);
        if (miles == 0 || !net.weaveWhole() || net.isFloating(a, b)) {
            return STATE;
        }
        int low = net.endOfSpan(a, b, 0);
        int high = net.endOfSpan(a, b, 1);
        if (low <= 0 && high >= 0) {
            return STATE;
        }
        int far = Math.max(Math.abs(low), Math.abs(high));
        int near = Math.min(Math.abs(low), Math.abs(high));
        return partInLowestTerms(miles, end == 0 ? far : near, part);
    }

    public int took(int pit, int leaf, int end) {
        if (!pits.hasLeaf(pit, leaf)) {
            return UNKNOWN;
        }
        if (!isWithin(end, 0, 1)) {
            return OUTSIDE;
        }
        if (pits.kindOf(pit, leaf) != FLOOD) {
            return STATE;
        }
        int answer = NONE;
        for (int other = 0; other < pits.size; other++) {
            int told = other == pit ? NONE : tookBy(pit, leaf, other);
            if (told == NONE) {
                continue;
            }
            if (answer == NONE || (end == 0 ? told < answer : told > answer)) {
                answer = told;
            }
        }
        return answer;
    }

    // ---- what is told

    public int image() {
        imagePits.copyFrom(pits);
        imageBonds.copyFrom(bonds);
        imageKept = true;
        return pits.size;
    }

    public int restore() {
        if (!imageKept) {
            return STATE;
        }
        pits.copyFrom(imagePits);
        bonds.copyFrom(imageBonds);
        return pits.size;
    }

    public int count(int what) {
        switch (what) {
            case 0:
                return pits.size;
            case 1:
                return pits.leavesOfAll();
            case 2:
                return hands.size;
            case 3:
                return laws.size;
            case 4:
                return bonds.joins;
            case 5:
                return Integer.bitCount(bonds.keptBits);
            case 6:
                return Integer.bitCount(bonds.tiedBits);
            case 7:
                return page.size;
            case 8:
                return sureDone;
            case 9:
                return digDone;
            default:
                return OUTSIDE;
        }
    }

    public long digest() {
        long h = 379;
        for (int pit = 0; pit < pits.size; pit++) {
            h = foldPit(h, pit);
        }
        for (int law = 0; law < laws.size; law++) {
            h = foldLaw(h, law);
        }
        h = bonds.foldInto(h);
        h = foldNet(h);
        for (int i = 0; i < page.size; i++) {
            h = fold(h, page.letters[i]);
        }
        for (int what = 0; what <= 9; what++) {
            h = fold(h, count(what));
        }
        return h;
    }

    // ---- helpers of the calls

    private static boolean isWithin(int number, int low, int high) {
        return number >= low && number <= high;
    }

    private static boolean isRange(int low, int high, int size) {
        return isWithin(low, -size, size) && isWithin(high, low, size);
    }

    private static boolean isSlide(int k) {
        return isWithin(k, -MOST_SLIDE, MOST_SLIDE);
    }

    private static boolean isLeafAsTold(int kind, int thickness, int n) {
        return isWithin(kind, 0, KINDS - 1) && isWithin(thickness, 1, MOST_THICKNESS) && isWithin(n, 0, MOST_N);
    }

    private static boolean isOfKind(int own, int kind) {
        return kind == own || kind == LEAF || (own == ASH && kind == WARM) || (own == FLOOD && kind == SLUMP);
    }

    private static int asNumber(boolean is) {
        return is ? 1 : 0;
    }

    private static long fold(long h, long number) {
        return 31 * h + number;
    }

    private static long seedAfter(long seed) {
        return (1103515245L * seed + 12345L) & 0x7fffffffL;
    }

    private static int drawn(long seed, int d) {
        return d <= 0 ? 0 : (int) (seed / 65536 % d);
    }

    private static int byteOf(long w, int place) {
        return (int) (w >>> (8 * place)) & 255;
    }

    /** How many letters the bytes tell, or OUTSIDE. */
    private static int lettersIn(long w) {
        int letters = 0;
        for (int i = 0; i < 8; i++) {
            int code = byteOf(w, i);
            if (code > 126 || (code != 0 && letters < i)) {
                return OUTSIDE;
            }
            if (code != 0) {
                letters++;
            }
        }
        return letters;
    }

    /** Part 0 is above, 1 below; both are above 0 where it is asked. */
    private static int partInLowestTerms(int above, int below, int part) {
        int common = above;
        int rest = below;
        for (int i = 0; i < 64 && rest != 0; i++) {
            int next = common % rest;
            common = rest;
            rest = next;
        }
        int asked = part == 0 ? above : below;
        return common == 0 ? asked : asked / common;
    }

    private int aboutPit(int pit, int what) {
        switch (what) {
            case 0:
                return pits.miles[pit];
            case 1:
                return pits.sizes[pit];
            case 2:
                return hands.yearsOfAll(NONE, pit);
            default:
                return OUTSIDE;
        }
    }

    private int aboutLeaf(int pit, int leaf, int what) {
        switch (what) {
            case 0:
                return pits.kindOf(pit, leaf);
            case 1:
                return pits.thicknessOf(pit, leaf);
            case 2:
                return pits.nOf(pit, leaf);
            case 3:
                return leaf == 0 ? 1 : 1 + pits.stepBetween(pit, leaf - 1, leaf);
            default:
                return OUTSIDE;
        }
    }

    private int spanTold(int a, int b, int end) {
        return net.isFloating(a, b) ? WIDE_NONE : net.endOfSpan(a, b, end);
    }

    /** What the FLOOD took, by one other PIT; NONE, if that one does not tell. */
    private int tookBy(int pit, int flood, int other) {
        int ahead = pits.sharedAshAhead(pit, flood, other);
        int behind = pits.sharedAshBehind(pit, flood, other);
        if (ahead == NONE || behind == NONE) {
            return NONE;
        }
        int from = pits.firstAsh(other, pits.nOf(pit, ahead));
        int to = pits.firstAsh(other, pits.nOf(pit, behind));
        if (from == NONE || to <= from || pits.hasFloodBetween(other, from, to)) {
            return NONE;
        }
        int there = hands.yearsAhead(NONE, other, to) - hands.yearsAhead(NONE, other, from);
        int here = hands.yearsAhead(NONE, pit, behind) - hands.yearsAhead(NONE, pit, ahead);
        // by THE PLAIN HAND a FLOOD is whole years, n of them, so no rounding changes without it
        return Math.max(0, there - (here - pits.nOf(pit, flood)));
    }

    private long foldPit(long h, int pit) {
        h = fold(h, pits.miles[pit]);
        for (int leaf = 0; leaf < pits.sizes[pit]; leaf++) {
            h = fold(h, pits.kindOf(pit, leaf));
            h = fold(h, pits.thicknessOf(pit, leaf));
            h = fold(h, pits.nOf(pit, leaf));
        }
        for (int hand = NONE; hand < hands.size; hand++) {
            h = fold(h, hands.yearsOfAll(hand, pit));
        }
        return h;
    }

    private long foldLaw(long h, int law) {
        for (int a = 0; a < pits.size; a++) {
            for (int b = a + 1; b < pits.size; b++) {
                pairing.setTogether(law, a, b);
                h = fold(h, pairing.leastOfAll());
            }
        }
        return h;
    }

    private long foldNet(long h) {
        boolean closed = net.weaveWhole();
        h = fold(h, asNumber(bonds.ashesCount));
        h = fold(h, asNumber(closed));
        for (int a = 0; closed && a < pits.size; a++) {
            for (int b = a + 1; b < pits.size; b++) {
                h = fold(h, spanTold(a, b, 0));
                h = fold(h, spanTold(a, b, 1));
            }
        }
        net.group();
        return fold(h, net.groups());
    }

    /** The PITS with their LEAVES: LEAF i of PIT p stands at p * MOST_LEAVES + i. */
    private static final class Pits {
        private int size = 0;
        private final int[] miles = new int[MOST_PITS];
        private final int[] sizes = new int[MOST_PITS];
        private final int[] kinds = new int[MOST_PITS * MOST_LEAVES];
        private final int[] thicknesses = new int[MOST_PITS * MOST_LEAVES];
        private final int[] numbers = new int[MOST_PITS * MOST_LEAVES];

        private boolean has(int pit) {
            return pit >= 0 && pit < size;
        }

        private boolean hasLeaf(int pit, int leaf) {
            return has(pit) && leaf >= 0 && leaf < sizes[pit];
        }

        private int open(int milesThere) {
            int number = size;
            if (number >= MOST_PITS) {
                return NONE;
            }
            miles[number] = milesThere;
            sizes[number] = 0;
            size++;
            return number;
        }

        /** Leaves beyond the most that a PIT has are not laid. */
        private void push(int pit, int kind, int thickness, int n) {
            int top = sizes[pit];
            if (top < MOST_LEAVES) {
                sizes[pit] = top + 1;
                put(pit, top, kind, thickness, n);
            }
        }

        private void put(int pit, int leaf, int kind, int thickness, int n) {
            int place = pit * MOST_LEAVES + leaf;
            kinds[place] = kind;
            thicknesses[place] = thickness;
            numbers[place] = n;
        }

        private int kindOf(int pit, int leaf) {
            return kinds[pit * MOST_LEAVES + leaf];
        }

        private int thicknessOf(int pit, int leaf) {
            return thicknesses[pit * MOST_LEAVES + leaf];
        }

        private int nOf(int pit, int leaf) {
            return numbers[pit * MOST_LEAVES + leaf];
        }

        private boolean isAsh(int pit, int leaf) {
            return kindOf(pit, leaf) == ASH;
        }

        /** The STEP of a LEAF, if that other one is ahead of it. */
        private int stepBetween(int pit, int ahead, int leaf) {
            return Integer.compare(thicknessOf(pit, leaf), thicknessOf(pit, ahead));
        }

        private int firstAsh(int pit, int n) {
            for (int leaf = 0; leaf < sizes[pit]; leaf++) {
                if (isAsh(pit, leaf) && nOf(pit, leaf) == n) {
                    return leaf;
                }
            }
            return NONE;
        }

        private int sharedAshAhead(int pit, int leaf, int other) {
            for (int i = leaf - 1; i >= 0; i--) {
                if (isSharedAsh(pit, i, other)) {
                    return i;
                }
            }
            return NONE;
        }

        private int sharedAshBehind(int pit, int leaf, int other) {
            for (int i = leaf + 1; i < sizes[pit]; i++) {
                if (isSharedAsh(pit, i, other)) {
                    return i;
                }
            }
            return NONE;
        }

        private boolean isSharedAsh(int pit, int leaf, int other) {
            return isAsh(pit, leaf) && firstAsh(other, nOf(pit, leaf)) != NONE;
        }

        private boolean hasFloodBetween(int pit, int from, int to) {
            for (int leaf = from + 1; leaf < to; leaf++) {
                if (kindOf(pit, leaf) == FLOOD) {
                    return true;
                }
            }
            return false;
        }

        private int leavesOfAll() {
            int all = 0;
            for (int pit = 0; pit < size; pit++) {
                all += sizes[pit];
            }
            return all;
        }

        private void copyFrom(Pits other) {
            size = other.size;
            System.arraycopy(other.miles, 0, miles, 0, MOST_PITS);
            System.arraycopy(other.sizes, 0, sizes, 0, MOST_PITS);
            System.arraycopy(other.kinds, 0, kinds, 0, MOST_PITS * MOST_LEAVES);
            System.arraycopy(other.thicknesses, 0, thicknesses, 0, MOST_PITS * MOST_LEAVES);
            System.arraycopy(other.numbers, 0, numbers, 0, MOST_PITS * MOST_LEAVES);
        }
    }

    /** JOINS, TIES, and whether ASHES are looked at. */
    private static final class Bonds {
        private int joins = 0;
        private final int[] firsts = new int[MOST_JOINS];
        private final int[] seconds = new int[MOST_JOINS];
        private final int[] lows = new int[MOST_JOINS];
        private final int[] highs = new int[MOST_JOINS];
        private final int[] doubts = new int[MOST_JOINS];
        private int keptBits = 0;
        private int tiedBits = 0;
        private final int[] tieLows = new int[MOST_PITS];
        private final int[] tieHighs = new int[MOST_PITS];
        private boolean ashesCount = true;

        private int addJoin(int a, int b, int low, int high, int doubt) {
            int number = joins;
            if (number >= MOST_JOINS) {
                return NONE;
            }
            firsts[number] = a;
            seconds[number] = b;
            lows[number] = low;
            highs[number] = high;
            doubts[number] = doubt;
            setKept(number, true);
            joins++;
            return number;
        }

        private boolean isKept(int join) {
            return (keptBits & (1 << join)) != 0;
        }

        private void setKept(int join, boolean is) {
            keptBits = is ? keptBits | (1 << join) : keptBits & ~(1 << join);
        }

        private boolean isTied(int pit) {
            return (tiedBits & (1 << pit)) != 0;
        }

        private void dropTie(int pit) {
            tiedBits &= ~(1 << pit);
        }

        private void setTie(int pit, int low, int high) {
            tiedBits |= 1 << pit;
            tieLows[pit] = low;
            tieHighs[pit] = high;
        }

        private long foldInto(long h) {
            for (int join = 0; join < joins; join++) {
                h = fold(h, firsts[join]);
                h = fold(h, seconds[join]);
                h = fold(h, lows[join]);
                h = fold(h, highs[join]);
                h = fold(h, doubts[join]);
                h = fold(h, asNumber(isKept(join)));
            }
            for (int pit = 0; pit < MOST_PITS; pit++) {
                if (isTied(pit)) {
                    h = fold(h, pit);
                    h = fold(h, tieLows[pit]);
                    h = fold(h, tieHighs[pit]);
                }
            }
            return h;
        }

        private void copyFrom(Bonds other) {
            joins = other.joins;
            System.arraycopy(other.firsts, 0, firsts, 0, MOST_JOINS);
            System.arraycopy(other.seconds, 0, seconds, 0, MOST_JOINS);
            System.arraycopy(other.lows, 0, lows, 0, MOST_JOINS);
            System.arraycopy(other.highs, 0, highs, 0, MOST_JOINS);
            System.arraycopy(other.doubts, 0, doubts, 0, MOST_JOINS);
            keptBits = other.keptBits;
            tiedBits = other.tiedBits;
            System.arraycopy(other.tieLows, 0, tieLows, 0, MOST_PITS);
            System.arraycopy(other.tieHighs, 0, tieHighs, 0, MOST_PITS);
            ashesCount = other.ashesCount;
        }
    }

    /** THE PAGE, and what it says when it is read. */
    private static final class Page {
        private static final int MOST = 30;
        private static final String HAND_NAMES = "lwnhfas";
        private static final String LAW_NAMES = "ldua";

        private int size = 0;
        private final int[] letters = new int[MOST];
        private boolean whole = false;
        private final int[] told = new int[KINDS];

        private void write(int code) {
            if (size < MOST) {
                letters[size] = code;
                size++;
            }
        }

        private int read(int sort) {
            return sort == SORT_HAND ? readItems(HAND_NAMES, 1) : readItems(LAW_NAMES, 2);
        }

        /** The place of the first fault; told has a number for each name, NONE where it is not told. */
        private int readItems(String names, int mostDigits) {
            Arrays.fill(told, NONE);
            whole = false;
            int item = NONE;
            int items = 0;
            int digits = 0;
            for (int i = 0; i < size; i++) {
                char letter = (char) letters[i];
                if (item == NONE) {
                    item = names.indexOf(letter);
                    if (!isWithin(item, 0, KINDS - 1) || told[item] != NONE) {
                        return i;
                    }
                    items++;
                    digits = 0;
                } else if (letter >= '0' && letter <= '9' && digits < mostDigits) {
                    told[item] = (digits == 0 ? 0 : 10 * told[item]) + letter - '0';
                    digits++;
                } else if (letter == ',' && digits > 0 && items < names.length()) {
                    item = NONE;
                } else {
                    return i;
                }
            }
            whole = item != NONE && digits > 0;
            return size;
        }
    }

    /** HANDS, and the years that they count; row 0 is THE PLAIN HAND's, row h + 1 that of HAND h. */
    private static final class Hands {
        private static final int[] PLAIN = {2, 2, 2, 1, 0, 2, 0};

        private final Pits pits;
        private int size = 0;
        private final int[] told = new int[(1 + MOST_TEXTS) * KINDS];

        private Hands(Pits pits) {
            this.pits = pits;
            Arrays.fill(told, NONE);
        }

        private boolean has(int hand) {
            return hand >= NONE && hand < size;
        }

        private int take(int[] items) {
            int number = size;
            if (number >= MOST_TEXTS) {
                return NONE;
            }
            System.arraycopy(items, 0, told, (number + 1) * KINDS, KINDS);
            size++;
            return number;
        }

        private int halvesOf(int hand, int kind, int n) {
            int halves = told[(hand + 1) * KINDS + kind];
            if (halves != NONE) {
                return halves;
            }
            return kind == FLOOD ? 2 * n : PLAIN[kind];
        }

        private int halvesAhead(int hand, int pit, int leaf) {
            int halves = 0;
            for (int i = 0; i < leaf; i++) {
                halves += halvesOf(hand, pits.kindOf(pit, i), pits.nOf(pit, i));
            }
            return halves;
        }

        private int yearsAhead(int hand, int pit, int leaf) {
            return halvesAhead(hand, pit, leaf) / 2;
        }

        private int yearsOfAll(int hand, int pit) {
            return (halvesAhead(hand, pit, pits.sizes[pit]) + 1) / 2;
        }
    }

    /** LAWS: four prices each, LOST, DOUBLED, UNLIKE, ASHES. */
    private static final class Laws {
        private static final int PRICES = 4;
        private static final int[] PLAIN = {9, 3, 1, 40};

        private int size = 0;
        private final int[] prices = new int[MOST_TEXTS * PRICES];

        private boolean has(int law) {
            return law >= 0 && law < size;
        }

        private int take(int[] items) {
            int number = size;
            if (number >= MOST_TEXTS) {
                return NONE;
            }
            for (int i = 0; i < PRICES; i++) {
                prices[number * PRICES + i] = items[i] == NONE ? PLAIN[i] : items[i];
            }
            size++;
            return number;
        }

        private int priceOf(int law, int item) {
            return prices[law * PRICES + item];
        }
    }

    /** One PIT slid along another one. */
    private static final class Slides {
        private final Pits pits;

        private Slides(Pits pits) {
            this.pits = pits;
        }

        private int overOf(int a, int b, int k) {
            int from = Math.max(0, k);
            int to = Math.min(pits.sizes[a], pits.sizes[b] + k);
            return Math.max(0, to - from);
        }

        /** LIKE, the second PIT's LEAVES being turned: the first ones, so many, laid behind all others. */
        private int likeOf(int a, int b, int k, int turn) {
            int size = pits.sizes[b];
            int sum = 0;
            for (int i = Math.max(0, k); i < pits.sizes[a] && i - k < size; i++) {
                int place = i - k;
                int leaf = turnedPlace(place, turn, size);
                if (i > 0 && place > 0) {
                    int ahead = turnedPlace(place - 1, turn, size);
                    sum += pits.stepBetween(a, i - 1, i) * pits.stepBetween(b, ahead, leaf);
                }
                if (pits.isAsh(a, i) && pits.isAsh(b, leaf)) {
                    sum += pits.nOf(a, i) == pits.nOf(b, leaf) ? 5 : -5;
                }
            }
            return sum;
        }

        private static int turnedPlace(int place, int turn, int size) {
            return place + turn < size ? place + turn : place + turn - size;
        }

        /** The slides are tried in the order in which like ones are taken, so only a greater one is better. */
        private int best(int a, int b, int m) {
            int best = WIDE_NONE;
            int most = 0;
            for (int i = 0; i <= 2 * MOST_SLIDE; i++) {
                int k = i % 2 == 1 ? -(i + 1) / 2 : i / 2;
                if (overOf(a, b, k) < m) {
                    continue;
                }
                int like = likeOf(a, b, k, 0);
                if (best == WIDE_NONE || like > most) {
                    best = k;
                    most = like;
                }
            }
            return best;
        }

        private int turnsAsLike(int a, int b, int k) {
            int least = likeOf(a, b, k, 0);
            int turns = 0;
            for (int turn = 0; turn < pits.sizes[b]; turn++) {
                if (likeOf(a, b, k, turn) >= least) {
                    turns++;
                }
            }
            return turns;
        }
    }

    /** Two PITS set TOGETHER by a LAW: what is least from each place on to the top of both. */
    private static final class Pairing {
        private static final int MOST_STEPS = 2 * MOST_LEAVES;
        private static final int MOST_WAYS = 999999999;
        private static final int SIDE = MOST_LEAVES + 1;
        private static final int ONE_ON_ONE = 0;
        private static final int ONE_ON_TWO = 3;
        private static final int TWO_ON_ONE = 4;
        private static final int SORTS = 5;
        private static final int[] OF_FIRST = {1, 1, 0, 1, 2};
        private static final int[] OF_SECOND = {1, 0, 1, 2, 1};

        private final Pits pits;
        private final Laws laws;
        private final int[] firstThickness = new int[MOST_LEAVES];
        private final int[] secondThickness = new int[MOST_LEAVES];
        private final int[] firstAshes = new int[MOST_LEAVES];
        private final int[] secondAshes = new int[MOST_LEAVES];
        private int firstSize = 0;
        private int secondSize = 0;
        private int lost = 0;
        private int doubled = 0;
        private int unlike = 0;
        private int ashesPrice = 0;
        private int barredFirst = NONE;
        private int barredSecond = NONE;
        private final int[] least = new int[SIDE * SIDE];
        private final int[] ways = new int[SIDE * SIDE];
        private final int[] way = new int[MOST_STEPS];
        private int wayLength = 0;
        private final int[] liesOn = new int[MOST_LEAVES];
        private final int[] liesBy = new int[MOST_LEAVES];

        private Pairing(Pits pits, Laws laws) {
            this.pits = pits;
            this.laws = laws;
        }

        private void setTogether(int law, int a, int b) {
            firstSize = pits.sizes[a];
            secondSize = pits.sizes[b];
            readRow(a, firstThickness, firstAshes);
            readRow(b, secondThickness, secondAshes);
            lost = laws.priceOf(law, 0);
            doubled = laws.priceOf(law, 1);
            unlike = laws.priceOf(law, 2);
            ashesPrice = laws.priceOf(law, 3);
            barredFirst = NONE;
            barredSecond = NONE;
            fillAll();
        }

        /** As ashes stand the n of each ASH, NONE where none is. */
        private void readRow(int pit, int[] thickness, int[] ashes) {
            for (int leaf = 0; leaf < pits.sizes[pit]; leaf++) {
                thickness[leaf] = pits.thicknessOf(pit, leaf);
                ashes[leaf] = pits.isAsh(pit, leaf) ? pits.nOf(pit, leaf) : NONE;
            }
        }

        private int leastOfAll() {
            return least[0];
        }

        private int waysOfAll() {
            return ways[0];
        }

        /** LEAST of all ways but those that set this LEAF on that one by a STEP 0. */
        private int leastWithout(int leaf, int on) {
            barredFirst = leaf;
            barredSecond = on;
            fillAll();
            return least[0];
        }

        private int stepOfTheWay(int i) {
            return isWithin(i, 0, wayLength - 1) ? way[i] : NONE;
        }

        private void fillAll() {
            for (int i = firstSize; i >= 0; i--) {
                for (int j = secondSize; j >= 0; j--) {
                    fillPlace(i, j);
                }
            }
        }

        private void fillPlace(int i, int j) {
            int lowest = NONE;
            int many = 0;
            for (int step = 0; step < SORTS; step++) {
                if (!canStep(step, i, j)) {
                    continue;
                }
                int next = placeAfter(step, i, j);
                int price = priceOf(step, i, j) + least[next];
                if (lowest == NONE || price < lowest) {
                    lowest = price;
                    many = ways[next];
                } else if (price == lowest) {
                    many = Math.min(MOST_WAYS, many + ways[next]);
                }
            }
            // no STEP goes on from the top of both: there is one way from there, for nothing
            least[i * SIDE + j] = lowest == NONE ? 0 : lowest;
            ways[i * SIDE + j] = lowest == NONE ? 1 : many;
        }

        private boolean canStep(int step, int i, int j) {
            if (step == ONE_ON_ONE && i == barredFirst && j == barredSecond) {
                return false;
            }
            return i + OF_FIRST[step] <= firstSize && j + OF_SECOND[step] <= secondSize;
        }

        private int placeAfter(int step, int i, int j) {
            return (i + OF_FIRST[step]) * SIDE + j + OF_SECOND[step];
        }

        private int priceOf(int step, int i, int j) {
            switch (step) {
                case ONE_ON_ONE:
                    return priceOfOneOnOne(i, j);
                case ONE_ON_TWO:
                    return priceOfDoubled(
                            secondThickness[j] + secondThickness[j + 1] - firstThickness[i],
                            asNumber(firstAshes[i] != NONE) + ashesFrom(secondAshes, j));
                case TWO_ON_ONE:
                    return priceOfDoubled(
                            firstThickness[i] + firstThickness[i + 1] - secondThickness[j],
                            asNumber(secondAshes[j] != NONE) + ashesFrom(firstAshes, i));
                default:
                    return lost;
            }
        }

        private int priceOfOneOnOne(int i, int j) {
            int price = unlike * Math.abs(firstThickness[i] - secondThickness[j]);
            return firstAshes[i] == secondAshes[j] ? price : price + ashesPrice;
        }

        private int priceOfDoubled(int difference, int ashesThere) {
            return doubled + unlike * Math.abs(difference) + ashesPrice * ashesThere;
        }

        private static int ashesFrom(int[] ashes, int leaf) {
            int there = ashes[leaf] == NONE ? 0 : 1;
            return ashes[leaf + 1] == NONE ? there : there + 1;
        }

        private void goTheWay() {
            int i = 0;
            int j = 0;
            wayLength = 0;
            for (int steps = 0; steps < MOST_STEPS; steps++) {
                int step = leastStepFrom(i, j);
                if (step == NONE) {
                    return;
                }
                way[wayLength] = step;
                wayLength++;
                for (int leaf = i; leaf < i + OF_FIRST[step]; leaf++) {
                    liesBy[leaf] = step;
                    liesOn[leaf] = OF_SECOND[step] == 0 ? NONE : j;
                }
                i += OF_FIRST[step];
                j += OF_SECOND[step];
            }
        }

        private int leastStepFrom(int i, int j) {
            for (int step = 0; step < SORTS; step++) {
                if (canStep(step, i, j)
                        && priceOf(step, i, j) + least[placeAfter(step, i, j)] == least[i * SIDE + j]) {
                    return step;
                }
            }
            return NONE;
        }
    }

    /**
     * THE NET: a grid has, at from * NODES + to, the most that the BOTTOM of the one PIT can be less that of the
     * other, FAR if there is no bound; every grid is kept so that no way round through others tells less.
     */
    private static final class Net {
        private static final int YEAR_ZERO = MOST_PITS;
        private static final int NODES = MOST_PITS + 1;
        private static final int NUMBERS = MOST_N + 1;
        private static final int FAR = 1000000000;

        private final Pits pits;
        private final Hands hands;
        private final Bonds bonds;
        private final int[] whole = new int[NODES * NODES];
        private final int[] fixed = new int[NODES * NODES];
        private final int[] without = new int[NODES * NODES];
        private final int[][] levels = new int[MOST_JOINS + 1][NODES * NODES];
        private final int[] ashYears = new int[MOST_PITS * NUMBERS];
        private final int[] labels = new int[NODES];
        private int bestCast = NONE;
        private int bestSize = 0;
        private int bestDoubt = 0;
        private int digA = NONE;
        private int digB = NONE;
        private int digWorst = NONE;

        private Net(Pits pits, Hands hands, Bonds bonds) {
            this.pits = pits;
            this.hands = hands;
            this.bonds = bonds;
        }

        /** Whether IT CLOSES; the spans are asked for behind this. */
        private boolean weaveWhole() {
            return weaveFixed() && weaveJoins(whole, NONE);
        }

        private boolean isFloating(int a, int b) {
            return whole[a * NODES + b] == FAR;
        }

        private int endOfSpan(int a, int b, int end) {
            return end == 0 ? -whole[b * NODES + a] : whole[a * NODES + b];
        }

        /** The fixed grid has all that is no JOIN. */
        private boolean weaveFixed() {
            Arrays.fill(fixed, FAR);
            for (int node = 0; node < NODES; node++) {
                fixed[node * NODES + node] = 0;
            }
            findAshes();
            for (int n = 0; n <= MOST_N; n++) {
                if (!bindAshes(n)) {
                    return false;
                }
            }
            for (int pit = 0; pit < pits.size; pit++) {
                if (bonds.isTied(pit) && !bind(fixed, YEAR_ZERO, pit, bonds.tieLows[pit], bonds.tieHighs[pit])) {
                    return false;
                }
            }
            return true;
        }

        private boolean weaveJoins(int[] grid, int joinLeftOut) {
            System.arraycopy(fixed, 0, grid, 0, NODES * NODES);
            for (int join = 0; join < bonds.joins; join++) {
                if (bonds.isKept(join) && join != joinLeftOut && !bindJoin(grid, join)) {
                    return false;
                }
            }
            return true;
        }

        private boolean bindJoin(int[] grid, int join) {
            return bind(grid, bonds.firsts[join], bonds.seconds[join], bonds.lows[join], bonds.highs[join]);
        }

        /** Where the first ASH of each n begins in each PIT, if ASHES are looked at. */
        private void findAshes() {
            Arrays.fill(ashYears, NONE);
            for (int pit = 0; bonds.ashesCount && pit < pits.size; pit++) {
                int halves = 0;
                for (int leaf = 0; leaf < pits.sizes[pit]; leaf++) {
                    int kind = pits.kindOf(pit, leaf);
                    int n = pits.nOf(pit, leaf);
                    if (kind == ASH && ashYears[pit * NUMBERS + n] == NONE) {
                        ashYears[pit * NUMBERS + n] = halves / 2;
                    }
                    halves += hands.halvesOf(NONE, kind, n);
                }
            }
        }

        /** Each PIT with that ASH is bound to the first one; so all are bound to one another. */
        private boolean bindAshes(int n) {
            int one = firstPitWithAsh(n);
            for (int pit = one + 1; one != NONE && pit < pits.size; pit++) {
                if (!hasAsh(pit, n)) {
                    continue;
                }
                int apart = ashYears[one * NUMBERS + n] - ashYears[pit * NUMBERS + n];
                if (!bind(fixed, one, pit, apart, apart)) {
                    return false;
                }
            }
            return true;
        }

        private boolean hasAsh(int pit, int n) {
            return ashYears[pit * NUMBERS + n] != NONE;
        }

        private int firstPitWithAsh(int n) {
            for (int pit = 0; pit < pits.size; pit++) {
                if (hasAsh(pit, n)) {
                    return pit;
                }
            }
            return NONE;
        }

        private static boolean bind(int[] grid, int a, int b, int low, int high) {
            return bound(grid, a, b, high) && bound(grid, b, a, -low);
        }

        /** The one at to is at most so much above the one at from; false: that can't be. */
        private static boolean bound(int[] grid, int from, int to, int most) {
            if (most >= grid[from * NODES + to]) {
                return true;
            }
            if (grid[to * NODES + from] + most < 0) {
                return false;
            }
            for (int i = 0; i < NODES; i++) {
                int there = grid[i * NODES + from];
                for (int j = 0; there != FAR && j < NODES; j++) {
                    int on = grid[to * NODES + j];
                    if (on != FAR && there + most + on < grid[i * NODES + j]) {
                        grid[i * NODES + j] = there + most + on;
                    }
                }
            }
            return true;
        }

        // ---- calendars

        /** PITS that hang together get one label. */
        private void group() {
            for (int node = 0; node < NODES; node++) {
                labels[node] = node;
            }
            for (int join = 0; join < bonds.joins; join++) {
                if (bonds.isKept(join)) {
                    hangTogether(bonds.firsts[join], bonds.seconds[join]);
                }
            }
            for (int pit = 0; pit < pits.size; pit++) {
                if (bonds.isTied(pit)) {
                    hangTogether(YEAR_ZERO, pit);
                }
            }
            findAshes();
            for (int n = 0; n <= MOST_N; n++) {
                groupAshes(n);
            }
        }

        private void groupAshes(int n) {
            int one = firstPitWithAsh(n);
            for (int pit = one + 1; one != NONE && pit < pits.size; pit++) {
                if (hasAsh(pit, n)) {
                    hangTogether(one, pit);
                }
            }
        }

        private void hangTogether(int a, int b) {
            int from = labels[b];
            int to = labels[a];
            for (int node = 0; node < NODES; node++) {
                if (labels[node] == from) {
                    labels[node] = to;
                }
            }
        }

        private int groups() {
            int seen = 0;
            for (int pit = 0; pit < pits.size; pit++) {
                seen |= 1 << labels[pit];
            }
            return Integer.bitCount(seen);
        }

        private int groupOfFirst() {
            int bits = 0;
            for (int pit = 0; pit < pits.size; pit++) {
                if (labels[pit] == labels[0]) {
                    bits |= 1 << pit;
                }
            }
            return bits;
        }

        // ---- which joins must go, which ones hold

        private int leastCast() {
            bestCast = NONE;
            bestSize = MOST_JOINS + 1;
            bestDoubt = NONE;
            if (weaveFixed()) {
                System.arraycopy(fixed, 0, levels[0], 0, NODES * NODES);
                castFrom(0, 0, 0);
            }
            return bestCast;
        }

        /** All JOINS ahead of this one are cast or bound, in the level's grid; no more are cast than the best has. */
        private void castFrom(int join, int cast, int doubt) {
            if (Integer.bitCount(cast) > bestSize) {
                return;
            }
            if (join >= bonds.joins || join >= MOST_JOINS) {
                considerCast(cast, doubt);
                return;
            }
            copyLevel(join);
            if (!bonds.isKept(join) || bindJoin(levels[join + 1], join)) {
                castFrom(join + 1, cast, doubt);
            }
            if (bonds.isKept(join)) {
                copyLevel(join);
                castFrom(join + 1, cast | (1 << join), doubt + bonds.doubts[join]);
            }
        }

        private void copyLevel(int level) {
            System.arraycopy(levels[level], 0, levels[level + 1], 0, NODES * NODES);
        }

        private void considerCast(int cast, int doubt) {
            int size = Integer.bitCount(cast);
            boolean better = size < bestSize || doubt > bestDoubt || (doubt == bestDoubt && cast < bestCast);
            if (size <= bestSize && better) {
                bestCast = cast;
                bestSize = size;
                bestDoubt = doubt;
            }
        }

        private int joinsThatHold(int a, int b) {
            int bits = 0;
            for (int join = 0; join < bonds.joins; join++) {
                if (bonds.isKept(join) && isWiderWithout(join, a, b)) {
                    bits |= 1 << join;
                }
            }
            return bits;
        }

        private boolean isWiderWithout(int join, int a, int b) {
            weaveJoins(without, join);
            return without[a * NODES + b] > whole[a * NODES + b] || without[b * NODES + a] > whole[b * NODES + a];
        }

        // ---- where to dig

        private void findDig() {
            digA = NONE;
            digB = NONE;
            digWorst = NONE;
            for (int a = 0; a < pits.size; a++) {
                for (int b = a + 1; b < pits.size; b++) {
                    if (isFloating(a, b) || !isWithin(widthOf(a, b), 1, WIDEST_DIG)) {
                        continue;
                    }
                    int worst = worstOfDig(a, b);
                    if (digWorst == NONE || worst < digWorst) {
                        digA = a;
                        digB = b;
                        digWorst = worst;
                    }
                }
            }
        }

        private int widthOf(int a, int b) {
            return whole[a * NODES + b] + whole[b * NODES + a];
        }

        private int worstOfDig(int a, int b) {
            int worst = 0;
            int low = endOfSpan(a, b, 0);
            for (int i = 0; i <= widthOf(a, b) && i <= WIDEST_DIG; i++) {
                worst = Math.max(worst, widthsIfApart(a, b, low + i));
            }
            return worst;
        }

        private int widthsIfApart(int a, int b, int apart) {
            int sum = 0;
            for (int c = 0; c < pits.size; c++) {
                for (int d = c + 1; d < pits.size; d++) {
                    if (!isFloating(c, d)) {
                        sum += isFloating(a, c) ? widthOf(c, d)
                                : mostIfApart(a, b, apart, c, d) + mostIfApart(a, b, apart, d, c);
                    }
                }
            }
            return sum;
        }

        /** A shortest way goes between a and b once at most, as there and back is for nothing. */
        private int mostIfApart(int a, int b, int apart, int from, int to) {
            int there = whole[from * NODES + a] + apart + whole[b * NODES + to];
            int back = whole[from * NODES + b] - apart + whole[a * NODES + to];
            return Math.min(whole[from * NODES + to], Math.min(there, back));
        }
    }
}
