import java.math.BigInteger;
import java.util.ArrayList;
import java.util.Arrays;
import java.util.List;
import java.util.Random;

/**
 * Runs of calls by a seed, on the class and on a slow model of the document that shares no line with it: every
 * answer must be the same. The model goes through all ways, all sets and all years by brute force where it can.
 */
public final class ModelTest {
    private static final int NONE = -1, UNKNOWN = -101, OUTSIDE = -102, STATE = -103, FULL = -104;

    private static int wrong = 0;

    public static void main(String[] args) {
        int runs = args.length > 0 ? Integer.parseInt(args[0]) : 1500;
        for (int run = 0; run < runs && wrong < 5; run++) {
            new Run(run).go();
        }
        System.out.println("answers by promise " + Arrays.toString(Run.asked));
        if (Run.mostCalls > 512) {
            System.out.println("an object was used for " + Run.mostCalls + " calls");
            wrong++;
        }
        if (wrong > 0) {
            System.exit(1);
        }
    }

    record Leaf(int kind, int thickness, int n) {
        boolean is(int other) {
            return other == 0 || other == kind || kind == 5 && other == 1 || kind == 4 && other == 6;
        }

        boolean ash() {
            return kind == 5;
        }
    }

    record Join(int a, int b, int low, int high, int doubt, boolean kept) {
    }

    record Tie(int low, int high) {
    }

    record World(List<Integer> miles, List<List<Leaf>> pits, List<Join> joins, List<Tie> ties, boolean ashes) {
        World copy() {
            List<List<Leaf>> rows = new ArrayList<>();
            for (List<Leaf> row : pits) {
                rows.add(new ArrayList<>(row));
            }
            return new World(new ArrayList<>(miles), rows, new ArrayList<>(joins), new ArrayList<>(ties), ashes);
        }
    }

    /** A way TOGETHER from some place to the top: its price, how many have it, the least steps. */
    record Best(int price, BigInteger ways, String steps) {
    }

    /** The document's calls, each in the plainest way. */
    static final class Model {
        World w = new World(new ArrayList<>(), new ArrayList<>(), new ArrayList<>(), new ArrayList<>(), true);
        World image = null;
        String page = "";
        final List<String> hands = new ArrayList<>();
        final List<String> laws = new ArrayList<>();
        int sures = 0;
        int digs = 0;

        boolean isPit(int p) {
            return 0 <= p && p < w.pits.size();
        }

        boolean isLeaf(int p, int i) {
            return isPit(p) && 0 <= i && i < w.pits.get(p).size();
        }

        boolean isHand(int h) {
            return -1 <= h && h < hands.size();
        }

        boolean isLaw(int l) {
            return 0 <= l && l < laws.size();
        }

        static boolean leafOk(int kind, int thickness, int n) {
            return kind >= 0 && kind <= 6 && thickness >= 1 && thickness <= 99 && n >= 0 && n <= 9;
        }

        int pit(int miles) {
            if (miles < 0 || miles > 240) return OUTSIDE;
            if (w.pits.size() == 7) return FULL;
            w.miles.add(miles);
            w.pits.add(new ArrayList<>());
            w.ties.add(null);
            return w.pits.size() - 1;
        }

        int leaf(int pit, int kind, int thickness, int n) {
            if (!isPit(pit)) return UNKNOWN;
            if (!leafOk(kind, thickness, n)) return OUTSIDE;
            List<Leaf> row = w.pits.get(pit);
            if (row.size() == 16) return FULL;
            row.add(new Leaf(kind, thickness, n));
            return row.size();
        }

        int as(int pit, int leaf, int kind) {
            if (!isLeaf(pit, leaf)) return UNKNOWN;
            if (kind < 0 || kind > 6) return OUTSIDE;
            return w.pits.get(pit).get(leaf).is(kind) ? leaf : NONE;
        }

        static int step(List<Leaf> row, int i) {
            return i == 0 ? 0 : Integer.signum(row.get(i).thickness - row.get(i - 1).thickness);
        }

        int about(int pit, int leaf, int what) {
            if (!isPit(pit) || leaf != -1 && !isLeaf(pit, leaf)) return UNKNOWN;
            if (leaf == -1) {
                int[] all = {w.miles.get(pit), w.pits.get(pit).size(), years(-1, pit)};
                return what < 0 || what > 2 ? OUTSIDE : all[what];
            }
            Leaf l = w.pits.get(pit).get(leaf);
            int[] all = {l.kind, l.thickness, l.n, step(w.pits.get(pit), leaf) + 1};
            return what < 0 || what > 3 ? OUTSIDE : all[what];
        }

        int change(int pit, int leaf, int kind, int thickness, int n) {
            if (!isLeaf(pit, leaf)) return UNKNOWN;
            if (!leafOk(kind, thickness, n)) return OUTSIDE;
            return w.pits.get(pit).set(leaf, new Leaf(kind, thickness, n)).thickness;
        }

        BigInteger seed;

        int draw(int d) {
            BigInteger m = BigInteger.TWO.pow(31);
            seed = seed.multiply(BigInteger.valueOf(1103515245)).add(BigInteger.valueOf(12345)).mod(m);
            return seed.divide(BigInteger.valueOf(65536)).mod(BigInteger.valueOf(d)).intValue();
        }

        int lay(int pit, int start, int years, int p, int q) {
            if (!isPit(pit)) return UNKNOWN;
            if (start < 0 || years < 1 || years > 20 || p < 0 || p > 99 || q < 0 || q > 99) return OUTSIDE;
            seed = BigInteger.valueOf(start);
            List<Leaf> row = w.pits.get(pit);
            for (int y = 0; y < years; y++) {
                int dw = draw(40);
                int e = draw(6);
                int x = draw(100);
                if (x < p) continue;
                if (x < p + q) {
                    row.add(new Leaf(3, 3 + dw, 0));
                    row.add(new Leaf(3, 2 + e, 0));
                } else {
                    row.add(new Leaf(dw > 34 ? 1 : 0, 5 + dw + e, 0));
                }
            }
            while (row.size() > 16) {
                row.remove(row.size() - 1);
            }
            return row.size();
        }

        int letters(long word) {
            String more = "";
            boolean ended = false;
            for (int i = 0; i < 8; i++) {
                int code = (int) Math.floorMod(Math.floorDiv(word, 1L << (8 * Math.min(i, 7))), 256L);
                if (code > 126 || ended && code != 0) return OUTSIDE;
                if (code == 0) ended = true;
                else more += (char) code;
            }
            if (page.length() + more.length() > 30) return FULL;
            page += more;
            return page.length();
        }

        int blank() {
            int had = page.length();
            page = "";
            return had;
        }

        static boolean lettersOnce(String text) {
            String letters = text.replaceAll("[^a-z]", "");
            return letters.chars().distinct().count() == letters.length();
        }

        static final String HAND_ITEM = "[lwnhfas][0-9]";
        static final String LAW_ITEM = "[ldua][0-9][0-9]?";

        static boolean isText(String text, int sort) {
            String item = sort == 0 ? HAND_ITEM : LAW_ITEM;
            return text.matches(item + "(," + item + ")*") && lettersOnce(text);
        }

        /** Whether some text goes on from this one: ends are tried. */
        static boolean begins(String text, int sort) {
            if (text.isEmpty()) return true;
            List<String> ends = new ArrayList<>(List.of("", "0", ",", "1,"));
            String letters = sort == 0 ? "lwnhfas" : "ldua";
            for (char c : letters.toCharArray()) {
                ends.add(c + "0");
            }
            for (String end : ends) {
                if (isText(text + end, sort)) return true;
            }
            return false;
        }

        int fault(int sort) {
            if (sort < 0 || sort > 1) return OUTSIDE;
            for (int i = 0; i < page.length(); i++) {
                if (!begins(page.substring(0, i + 1), sort)) return i;
            }
            return page.length();
        }

        int hand() {
            if (!isText(page, 0)) return STATE;
            if (hands.size() == 4) return FULL;
            hands.add(page);
            page = "";
            return hands.size() - 1;
        }

        int law() {
            if (!isText(page, 1)) return STATE;
            if (laws.size() == 4) return FULL;
            laws.add(page);
            page = "";
            return laws.size() - 1;
        }

        static int toldBy(String text, char letter, int plain) {
            for (String item : text.split(",")) {
                if (!item.isEmpty() && item.charAt(0) == letter) return Integer.parseInt(item.substring(1));
            }
            return plain;
        }

        int halves(int hand, int pit, int upTo) {
            String text = hand < 0 ? "" : hands.get(hand);
            int sum = 0;
            for (Leaf l : w.pits.get(pit).subList(0, upTo)) {
                int plain = l.kind == 4 ? 2 * l.n : l.kind == 3 ? 1 : l.kind == 6 ? 0 : 2;
                sum += toldBy(text, "lwnhfas".charAt(l.kind), plain);
            }
            return sum;
        }

        int at(int hand, int pit, int leaf) {
            if (!isHand(hand) || !isPit(pit) || leaf < 0 || leaf > w.pits.get(pit).size()) return UNKNOWN;
            return halves(hand, pit, leaf) / 2;
        }

        int years(int hand, int pit) {
            if (!isHand(hand) || !isPit(pit)) return UNKNOWN;
            int h = halves(hand, pit, w.pits.get(pit).size());
            return h / 2 + h % 2;
        }

        int lean(int hand, int other) {
            if (!isHand(hand) || !isHand(other)) return -100001;
            int sum = 0;
            for (int p = 0; p < w.pits.size(); p++) {
                sum += years(hand, p);
                sum -= years(other, p);
            }
            return sum;
        }

        static int likeOf(List<Leaf> a, List<Leaf> b, int k) {
            int sum = 0;
            for (int i = 0; i < a.size(); i++) {
                int j = i - k;
                if (j < 0 || j >= b.size()) continue;
                sum += step(a, i) * step(b, j);
                if (a.get(i).ash() && b.get(j).ash()) {
                    sum += a.get(i).n == b.get(j).n ? 5 : -5;
                }
            }
            return sum;
        }

        int overOf(int a, int b, int k) {
            int sum = 0;
            for (int i = 0; i < w.pits.get(a).size(); i++) {
                if (i - k >= 0 && i - k < w.pits.get(b).size()) sum++;
            }
            return sum;
        }

        int like(int a, int b, int k) {
            if (!isPit(a) || !isPit(b)) return -100001;
            if (k < -15 || k > 15) return -100002;
            return overOf(a, b, k) == 0 ? -100004 : likeOf(w.pits.get(a), w.pits.get(b), k);
        }

        int over(int a, int b, int k) {
            if (!isPit(a) || !isPit(b)) return UNKNOWN;
            if (k < -15 || k > 15) return OUTSIDE;
            return overOf(a, b, k);
        }

        int slide(int a, int b, int m) {
            if (!isPit(a) || !isPit(b)) return -100001;
            if (m < 1 || m > 16) return -100002;
            List<Integer> all = new ArrayList<>();
            for (int k = -15; k <= 15; k++) {
                if (overOf(a, b, k) >= m) all.add(k);
            }
            all.sort((x, y) -> {
                int byLike = like(a, b, y) - like(a, b, x);
                if (byLike != 0) return byLike;
                int bySize = Math.abs(x) - Math.abs(y);
                return bySize != 0 ? bySize : x - y;
            });
            return all.isEmpty() ? -100004 : all.get(0);
        }

        int chance(int a, int b, int k, int part) {
            if (!isPit(a) || !isPit(b)) return UNKNOWN;
            if (k < -15 || k > 15 || part < 0 || part > 1) return OUTSIDE;
            if (overOf(a, b, k) == 0) return STATE;
            List<Leaf> row = w.pits.get(b);
            int hits = 0;
            for (int r = 0; r < row.size(); r++) {
                List<Leaf> turned = new ArrayList<>(row.subList(r, row.size()));
                turned.addAll(row.subList(0, r));
                if (likeOf(w.pits.get(a), turned, k) >= like(a, b, k)) hits++;
            }
            return lowest(hits, row.size(), part);
        }

        static int lowest(int above, int below, int part) {
            int g = BigInteger.valueOf(above).gcd(BigInteger.valueOf(below)).intValue();
            return (part == 0 ? above : below) / g;
        }

        static int ash(Leaf l) {
            return l.ash() ? 1 : 0;
        }

        /** From the top down: the best from each place, where one pair may be barred. */
        Best best(int law, int a, int b, int barA, int barB) {
            String text = laws.get(law);
            int lost = toldBy(text, 'l', 9);
            int doubled = toldBy(text, 'd', 3);
            int unlike = toldBy(text, 'u', 1);
            int ashes = toldBy(text, 'a', 40);
            List<Leaf> x = w.pits.get(a);
            List<Leaf> y = w.pits.get(b);
            Best[][] table = new Best[x.size() + 1][y.size() + 1];
            for (int i = x.size(); i >= 0; i--) {
                for (int j = y.size(); j >= 0; j--) {
                    List<Best> all = new ArrayList<>();
                    if (i == x.size() && j == y.size()) all.add(new Best(0, BigInteger.ONE, ""));
                    if (i < x.size() && j < y.size() && !(i == barA && j == barB)) {
                        Leaf s = x.get(i);
                        Leaf t = y.get(j);
                        int price = unlike * Math.abs(s.thickness - t.thickness);
                        if (s.ash() && t.ash() && s.n != t.n) price += ashes;
                        if (s.ash() && !t.ash() || t.ash() && !s.ash()) price += ashes;
                        all.add(ahead(0, price, table[i + 1][j + 1]));
                    }
                    if (i < x.size()) all.add(ahead(1, lost, table[i + 1][j]));
                    if (j < y.size()) all.add(ahead(2, lost, table[i][j + 1]));
                    if (i < x.size() && j + 1 < y.size()) {
                        all.add(ahead(3, doubledPrice(doubled, unlike, ashes, x.get(i), y.get(j), y.get(j + 1)),
                                table[i + 1][j + 2]));
                    }
                    if (i + 1 < x.size() && j < y.size()) {
                        all.add(ahead(4, doubledPrice(doubled, unlike, ashes, y.get(j), x.get(i), x.get(i + 1)),
                                table[i + 2][j + 1]));
                    }
                    int price = all.stream().mapToInt(Best::price).min().getAsInt();
                    BigInteger ways = BigInteger.ZERO;
                    String least = null;
                    for (Best one : all) {
                        if (one.price != price) continue;
                        ways = ways.add(one.ways);
                        if (least == null || one.steps.compareTo(least) < 0) least = one.steps;
                    }
                    table[i][j] = new Best(price, ways, least);
                }
            }
            return table[0][0];
        }

        static int doubledPrice(int doubled, int unlike, int ashes, Leaf one, Leaf two, Leaf three) {
            return doubled + unlike * Math.abs(one.thickness - two.thickness - three.thickness)
                    + ashes * (ash(one) + ash(two) + ash(three));
        }

        static Best ahead(int step, int price, Best rest) {
            return new Best(price + rest.price, rest.ways, step + rest.steps);
        }

        int together(int law, int a, int b, int what) {
            if (!isLaw(law) || !isPit(a) || !isPit(b)) return UNKNOWN;
            if (what < 0 || what > 2 && what < 10 || what > 41) return OUTSIDE;
            Best best = best(law, a, b, -1, -1);
            if (what == 0) return best.price;
            if (what == 1) return best.ways.min(BigInteger.valueOf(999999999)).intValue();
            if (what == 2) return best.steps.length();
            return what - 10 < best.steps.length() ? best.steps.charAt(what - 10) - '0' : NONE;
        }

        /** The step and the leaf of the second, as one number: 100 times the step and the leaf; -1 alone. */
        int place(int law, int a, int b, int leaf) {
            int i = 0;
            int j = 0;
            for (char c : best(law, a, b, -1, -1).steps.toCharArray()) {
                int di = c == '2' ? 0 : c == '4' ? 2 : 1;
                int dj = c == '1' ? 0 : c == '3' ? 2 : 1;
                if (leaf >= i && leaf < i + di) return c == '1' ? -1 : 100 * (c - '0') + j;
                i += di;
                j += dj;
            }
            throw new IllegalStateException("no place");
        }

        int lies(int law, int a, int b, int leaf) {
            if (!isLaw(law) || !isPit(a) || !isPit(b) || !isLeaf(a, leaf)) return UNKNOWN;
            int place = place(law, a, b, leaf);
            return place < 0 ? NONE : place % 100;
        }

        int sure(int law, int a, int b, int leaf) {
            if (!isLaw(law) || !isPit(a) || !isPit(b) || !isLeaf(a, leaf)) return UNKNOWN;
            if (sures == 100) return STATE;
            sures++;
            int place = place(law, a, b, leaf);
            if (place < 0 || place >= 100) return NONE;
            return best(law, a, b, leaf, place).price - best(law, a, b, -1, -1).price;
        }

        int join(int a, int b, int low, int high, int doubt) {
            if (!isPit(a) || !isPit(b) || a == b) return UNKNOWN;
            if (low < -999 || low > 999 || high < low || high > 999 || doubt < 0 || doubt > 99) return OUTSIDE;
            if (w.joins.size() == 12) return FULL;
            w.joins.add(new Join(a, b, low, high, doubt, true));
            return w.joins.size() - 1;
        }

        int keep(int join, boolean is) {
            if (join < 0 || join >= w.joins.size()) return UNKNOWN;
            Join j = w.joins.get(join);
            w.joins.set(join, new Join(j.a, j.b, j.low, j.high, j.doubt, is));
            return j.kept ? 1 : 0;
        }

        int tie(int pit, int low, int high) {
            if (!isPit(pit)) return UNKNOWN;
            if (low < -9999 || low > 9999 || high < low || high > 9999) return OUTSIDE;
            return w.ties.set(pit, new Tie(low, high)) == null ? 0 : 1;
        }

        int untie(int pit) {
            if (!isPit(pit)) return UNKNOWN;
            return w.ties.set(pit, null) == null ? 0 : 1;
        }

        int ashes(boolean are) {
            int were = w.ashes ? 1 : 0;
            w = new World(w.miles, w.pits, w.joins, w.ties, are);
            return were;
        }

        static final long FAR = Long.MAX_VALUE / 4;

        int firstAsh(int pit, int n) {
            for (int i = 0; i < w.pits.get(pit).size(); i++) {
                if (w.pits.get(pit).get(i).ash() && w.pits.get(pit).get(i).n == n) return i;
            }
            return -1;
        }

        /** Bellman's way from each node on its own, over all bonds; null: it does not close. Node 7 is the year 0. */
        long[][] net(int castBits, int more, int moreB, int apart) {
            List<long[]> edges = new ArrayList<>();
            for (int j = 0; j < w.joins.size(); j++) {
                Join join = w.joins.get(j);
                if (join.kept && (castBits >> j & 1) == 0) {
                    edges.add(new long[] {join.a, join.b, join.high});
                    edges.add(new long[] {join.b, join.a, -join.low});
                }
            }
            for (int p = 0; p < w.pits.size(); p++) {
                if (w.ties.get(p) != null) {
                    edges.add(new long[] {7, p, w.ties.get(p).high});
                    edges.add(new long[] {p, 7, -w.ties.get(p).low});
                }
                for (int o = 0; o < w.pits.size(); o++) {
                    for (int n = 0; n < 10 && o != p && w.ashes; n++) {
                        int i = firstAsh(p, n);
                        int k = firstAsh(o, n);
                        if (i >= 0 && k >= 0) edges.add(new long[] {p, o, at(-1, p, i) - at(-1, o, k)});
                    }
                }
            }
            if (more >= 0) {
                edges.add(new long[] {more, moreB, apart});
                edges.add(new long[] {moreB, more, -apart});
            }
            long[][] all = new long[8][8];
            for (int from = 0; from < 8; from++) {
                Arrays.fill(all[from], FAR);
                all[from][from] = 0;
                for (int round = 0; round < 8; round++) {
                    boolean less = false;
                    for (long[] e : edges) {
                        long there = all[from][(int) e[0]];
                        if (there != FAR && there + e[2] < all[from][(int) e[1]]) {
                            all[from][(int) e[1]] = there + e[2];
                            less = true;
                        }
                    }
                    if (!less) break;
                    if (round == 7) return null;
                }
            }
            return all;
        }

        long[][] net() {
            return net(0, -1, -1, 0);
        }

        int closes() {
            return net() == null ? 0 : 1;
        }

        int span(int a, int b, int end) {
            if (!isPit(a) || !isPit(b)) return -100001;
            if (end < 0 || end > 1) return -100002;
            long[][] net = net();
            if (net == null) return -100003;
            if (net[a][b] == FAR) return -100004;
            return (int) (end == 0 ? -net[b][a] : net[a][b]);
        }

        int date(int pit, int leaf, int end) {
            if (!isLeaf(pit, leaf)) return -100001;
            if (end < 0 || end > 1) return -100002;
            long[][] net = net();
            if (net == null) return -100003;
            if (net[7][pit] == FAR) return -100004;
            return (int) (end == 0 ? -net[pit][7] : net[7][pit]) + at(-1, pit, leaf);
        }

        boolean hangTogether(int p, int o) {
            if (w.ties.get(p) != null && w.ties.get(o) != null) return true;
            for (Join j : w.joins) {
                if (j.kept && (j.a == p && j.b == o || j.a == o && j.b == p)) return true;
            }
            for (int n = 0; n < 10 && w.ashes; n++) {
                if (firstAsh(p, n) >= 0 && firstAsh(o, n) >= 0) return true;
            }
            return false;
        }

        int reached(int from) {
            int bits = 1 << from;
            for (int round = 0; round < 7; round++) {
                for (int p = 0; p < w.pits.size(); p++) {
                    for (int o = 0; o < w.pits.size(); o++) {
                        if ((bits >> p & 1) == 1 && hangTogether(p, o)) bits |= 1 << o;
                    }
                }
            }
            return bits;
        }

        int calendars(int what) {
            if (what < 0 || what > 1) return OUTSIDE;
            if (w.pits.isEmpty()) return 0;
            if (what == 1) return reached(0);
            int all = 0;
            int seen = 0;
            for (int p = 0; p < w.pits.size(); p++) {
                if ((seen >> p & 1) == 0) {
                    all++;
                    seen |= reached(p);
                }
            }
            return all;
        }

        int castOut() {
            int best = NONE;
            for (int bits = 0; bits < 1 << w.joins.size(); bits++) {
                boolean ok = true;
                for (int j = 0; j < w.joins.size(); j++) {
                    if ((bits >> j & 1) == 1 && !w.joins.get(j).kept) ok = false;
                }
                if (!ok || best >= 0 && !isBetter(bits, best)) continue;
                if (net(bits, -1, -1, 0) != null) best = bits;
            }
            return best;
        }

        boolean isBetter(int bits, int than) {
            if (Integer.bitCount(bits) != Integer.bitCount(than)) return Integer.bitCount(bits) < Integer.bitCount(than);
            return doubtOf(bits) > doubtOf(than);
        }

        int doubtOf(int bits) {
            int sum = 0;
            for (int j = 0; j < w.joins.size(); j++) {
                if ((bits >> j & 1) == 1) sum += w.joins.get(j).doubt;
            }
            return sum;
        }

        int hangs(int a, int b) {
            if (!isPit(a) || !isPit(b)) return UNKNOWN;
            long[][] net = net();
            if (net == null || net[a][b] == FAR) return STATE;
            int bits = 0;
            for (int j = 0; j < w.joins.size(); j++) {
                long[][] less = net(1 << j, -1, -1, 0);
                if (less[a][b] != net[a][b] || less[b][a] != net[b][a]) bits |= 1 << j;
            }
            return bits;
        }

        int dig(int what) {
            if (what < 0 || what > 2) return OUTSIDE;
            long[][] net = net();
            if (net == null || digs == 8) return STATE;
            digs++;
            int[] best = null;
            for (int a = 0; a < w.pits.size(); a++) {
                for (int b = a + 1; b < w.pits.size(); b++) {
                    if (net[a][b] == FAR) continue;
                    long width = net[a][b] + net[b][a];
                    if (width < 1 || width > 40) continue;
                    long worst = 0;
                    for (long v = -net[b][a]; v <= net[a][b]; v++) {
                        long[][] found = net(0, a, b, (int) v);
                        long sum = 0;
                        for (int c = 0; c < w.pits.size(); c++) {
                            for (int d = 0; d < c; d++) {
                                if (found[c][d] != FAR) sum += found[c][d] + found[d][c];
                            }
                        }
                        worst = Math.max(worst, sum);
                    }
                    if (best == null || worst < best[2]) best = new int[] {a, b, (int) worst};
                }
            }
            return best == null ? NONE : best[what];
        }

        int pace(int a, int b, int end, int part) {
            if (!isPit(a) || !isPit(b)) return UNKNOWN;
            if (end < 0 || end > 1 || part < 0 || part > 1) return OUTSIDE;
            int low = span(a, b, 0);
            int high = span(a, b, 1);
            int miles = w.miles.get(a) - w.miles.get(b);
            if (miles == 0 || low <= -100000 || low <= 0 && 0 <= high) return STATE;
            int far = low > 0 ? high : -low;
            int near = low > 0 ? low : -high;
            return lowest(Math.abs(miles), end == 0 ? far : near, part);
        }

        int took(int pit, int leaf, int end) {
            if (!isLeaf(pit, leaf)) return UNKNOWN;
            if (end < 0 || end > 1) return OUTSIDE;
            List<Leaf> row = w.pits.get(pit);
            if (row.get(leaf).kind != 4) return STATE;
            List<Integer> all = new ArrayList<>();
            for (int o = 0; o < w.pits.size(); o++) {
                if (o == pit) continue;
                int ahead = -1;
                int behind = -1;
                for (int i = 0; i < row.size(); i++) {
                    if (!row.get(i).ash() || firstAsh(o, row.get(i).n) < 0) continue;
                    if (i < leaf) ahead = i;
                    if (i > leaf && behind < 0) behind = i;
                }
                if (ahead < 0 || behind < 0) continue;
                int from = firstAsh(o, row.get(ahead).n);
                int to = firstAsh(o, row.get(behind).n);
                boolean ok = from < to;
                for (int i = from; i < to; i++) {
                    ok &= w.pits.get(o).get(i).kind != 4;
                }
                if (!ok) continue;
                int there = at(-1, o, to) - at(-1, o, from);
                int here = (halves(-1, pit, behind) - 2 * row.get(leaf).n) / 2 - at(-1, pit, ahead);
                all.add(Math.max(0, there - here));
            }
            if (all.isEmpty()) return NONE;
            all.sort(null);
            return end == 0 ? all.get(0) : all.get(all.size() - 1);
        }

        int image() {
            image = w.copy();
            return w.pits.size();
        }

        int restore() {
            if (image == null) return STATE;
            w = image.copy();
            return w.pits.size();
        }

        int count(int what) {
            int leaves = w.pits.stream().mapToInt(List::size).sum();
            int kept = (int) w.joins.stream().filter(Join::kept).count();
            int ties = (int) w.ties.stream().filter(t -> t != null).count();
            int[] all = {w.pits.size(), leaves, hands.size(), laws.size(), w.joins.size(), kept, ties, page.length(),
                sures, digs};
            return what < 0 || what > 9 ? OUTSIDE : all[what];
        }

        long digest() {
            List<Long> all = new ArrayList<>();
            for (int p = 0; p < w.pits.size(); p++) {
                all.add((long) w.miles.get(p));
                for (Leaf l : w.pits.get(p)) {
                    all.addAll(List.of((long) l.kind, (long) l.thickness, (long) l.n));
                }
                for (int h = -1; h < hands.size(); h++) {
                    all.add((long) years(h, p));
                }
            }
            for (int l = 0; l < laws.size(); l++) {
                for (int a = 0; a < w.pits.size(); a++) {
                    for (int b = a + 1; b < w.pits.size(); b++) {
                        all.add((long) together(l, a, b, 0));
                    }
                }
            }
            for (Join j : w.joins) {
                all.addAll(List.of((long) j.a, (long) j.b, (long) j.low, (long) j.high, (long) j.doubt,
                        j.kept ? 1L : 0L));
            }
            for (int p = 0; p < w.pits.size(); p++) {
                Tie t = w.ties.get(p);
                if (t != null) all.addAll(List.of((long) p, (long) t.low, (long) t.high));
            }
            all.add(w.ashes ? 1L : 0L);
            all.add((long) closes());
            for (int a = 0; a < w.pits.size() && closes() == 1; a++) {
                for (int b = a + 1; b < w.pits.size(); b++) {
                    all.add((long) span(a, b, 0));
                    all.add((long) span(a, b, 1));
                }
            }
            all.add((long) calendars(0));
            for (char c : page.toCharArray()) {
                all.add((long) c);
            }
            for (int what = 0; what < 10; what++) {
                all.add((long) count(what));
            }
            long h = 379;
            for (long number : all) {
                h = h * 31 + number;
            }
            return h;
        }
    }

    /** One run: calls with arguments by a seed, mostly fit, some not; some runs lean to some calls. */
    static final class Run {
        static final int[] asked = new int[41];
        static int mostCalls = 0;

        final int seed;
        final Random random;
        final LeavesOfMud mud = new LeavesOfMud();
        final Model model = new Model();
        final List<String> log = new ArrayList<>();
        final int mostKind;
        final int mostThickness;
        final int mostN;
        final int spread;

        Run(int seed) {
            this.seed = seed;
            random = new Random(seed);
            mostKind = random.nextInt(3) == 0 ? 1 : 7;
            mostThickness = random.nextBoolean() ? 4 : 99;
            mostN = 1 + random.nextInt(4) * 3;
            spread = random.nextBoolean() ? 6 : 60;
        }

        int below(int n) {
            return random.nextInt(Math.max(1, n));
        }

        /** A number that is mostly one of 0 to n - 1. */
        int number(int n) {
            int die = random.nextInt(60);
            if (die == 0) return -1;
            if (die == 1) return n;
            if (die == 2) return random.nextBoolean() ? Integer.MAX_VALUE : Integer.MIN_VALUE;
            if (die == 3) return random.nextInt(200) - 100;
            return below(n);
        }

        int pitNumber() {
            return number(model.w.pits().size());
        }

        int leafNumber(int pit) {
            return number(model.isPit(pit) ? model.w.pits().get(pit).size() : 3);
        }

        int handNumber() {
            return random.nextInt(4) == 0 ? -1 : number(model.hands.size());
        }

        void go() {
            build();
            int calls = 120 + random.nextInt(120);
            // one more call may be many answers; what an object answers behind 512 calls is free
            for (int i = 0; i < calls && log.size() < 390 && wrong < 5; i++) {
                call(1 + random.nextInt(40));
            }
            mostCalls = Math.max(mostCalls, log.size());
        }

        void build() {
            int pits = 1 + random.nextInt(7);
            for (int i = 0; i < pits; i++) {
                call(2);
            }
            int leaves = pits * random.nextInt(17);
            for (int i = 0; i < leaves && random.nextInt(40) > 0; i++) {
                call(3);
            }
            for (int i = 0; i < 6; i++) {
                call(8);
            }
            if (random.nextBoolean()) {
                due("ashes(false)", 27, model.ashes(false), mud.ashes(false));
            }
            int joins = random.nextInt(14);
            for (int i = 0; i < joins; i++) {
                call(23);
            }
        }

        void due(String call, int promise, long want, long got) {
            asked[promise]++;
            log.add(call + " -> " + got);
            if (want != got) {
                wrong++;
                System.out.println("seed " + seed + ": " + call + " answered " + got + ", the model says " + want);
                System.out.println("  behind " + log);
            }
        }

        static String told(String name, Object... args) {
            return name + Arrays.toString(args);
        }

        long textWord() {
            String letters = random.nextBoolean() ? "lwnhfas" : "ldua";
            boolean law = letters.length() == 4;
            StringBuilder text = new StringBuilder();
            if (model.page.endsWith("0") && random.nextBoolean()) text.append(',');
            int items = 1 + random.nextInt(3);
            for (int i = 0; i < items; i++) {
                if (i > 0) text.append(random.nextInt(20) == 0 ? ';' : ',');
                text.append(letters.charAt(below(letters.length()))).append(random.nextInt(10));
                if (law && random.nextBoolean() || random.nextInt(20) == 0) text.append(random.nextInt(10));
            }
            if (random.nextInt(12) == 0) text.setLength(below(text.length()));
            long word = 0;
            for (int i = Math.min(8, text.length()) - 1; i >= 0; i--) {
                word = word << 8 | text.charAt(i);
            }
            return word;
        }

        void call(int promise) {
            int a = pitNumber();
            int b = pitNumber();
            int i = leafNumber(a);
            switch (promise) {
                case 2 -> {
                    int miles = random.nextInt(20) == 0 ? number(241) : 40 * random.nextInt(6);
                    due(told("pit", miles), 2, model.pit(miles), mud.pit(miles));
                }
                case 3 -> {
                    int kind = number(mostKind);
                    if (random.nextInt(4) == 0) kind = 5;
                    int t = 1 + number(mostThickness);
                    int n = number(mostN);
                    due(told("leaf", a, kind, t, n), 3, model.leaf(a, kind, t, n), mud.leaf(a, kind, t, n));
                }
                case 4 -> {
                    int kind = number(7);
                    due(told("as", a, i, kind), 4, model.as(a, i, kind), mud.as(a, i, kind));
                }
                case 5 -> {
                    int what = number(4);
                    int leaf = random.nextInt(3) == 0 ? -1 : i;
                    due(told("about", a, leaf, what), 5, model.about(a, leaf, what), mud.about(a, leaf, what));
                }
                case 6 -> {
                    int kind = number(mostKind);
                    int t = 1 + number(mostThickness);
                    int n = number(mostN);
                    due(told("change", a, i, kind, t, n), 6, model.change(a, i, kind, t, n),
                            mud.change(a, i, kind, t, n));
                }
                case 7 -> {
                    int s = random.nextInt(9) == 0 ? number(9) : random.nextInt(Integer.MAX_VALUE);
                    int years = 1 + number(random.nextBoolean() ? 20 : 3);
                    int p = number(random.nextBoolean() ? 100 : 20);
                    int q = number(100);
                    due(told("lay", a, s, years, p, q), 7, model.lay(a, s, years, p, q),
                            mud.lay(a, s, years, p, q));
                }
                case 8 -> {
                    long word = random.nextInt(10) == 0 ? random.nextLong() >> random.nextInt(64) : textWord();
                    due(told("letters", word), 8, model.letters(word), mud.letters(word));
                    due("fault(0)", 10, model.fault(0), mud.fault(0));
                    due("fault(1)", 10, model.fault(1), mud.fault(1));
                    if (random.nextInt(3) > 0) {
                        due("hand()", 11, model.hand(), mud.hand());
                        due("law()", 12, model.law(), mud.law());
                    }
                    if (random.nextInt(3) == 0) {
                        due("blank()", 9, model.blank(), mud.blank());
                    }
                }
                case 9 -> due("blank()", 9, model.blank(), mud.blank());
                case 10 -> {
                    int sort = number(2);
                    due(told("fault", sort), 10, model.fault(sort), mud.fault(sort));
                }
                case 11 -> due("hand()", 11, model.hand(), mud.hand());
                case 12 -> due("law()", 12, model.law(), mud.law());
                case 13 -> {
                    int hand = handNumber();
                    int leaf = random.nextInt(3) == 0 && model.isPit(a) ? model.w.pits().get(a).size() : i;
                    due(told("at", hand, a, leaf), 13, model.at(hand, a, leaf), mud.at(hand, a, leaf));
                }
                case 14 -> {
                    int hand = handNumber();
                    due(told("years", hand, a), 14, model.years(hand, a), mud.years(hand, a));
                }
                case 15 -> {
                    int hand = handNumber();
                    int other = handNumber();
                    due(told("lean", hand, other), 15, model.lean(hand, other), mud.lean(hand, other));
                }
                case 16 -> {
                    int k = number(31) - 15;
                    due(told("like", a, b, k), 16, model.like(a, b, k), mud.like(a, b, k));
                }
                case 17 -> {
                    int k = number(31) - 15;
                    due(told("over", a, b, k), 17, model.over(a, b, k), mud.over(a, b, k));
                }
                case 18 -> {
                    int m = 1 + number(random.nextBoolean() ? 3 : 16);
                    due(told("slide", a, b, m), 18, model.slide(a, b, m), mud.slide(a, b, m));
                }
                case 19 -> {
                    int k = number(11) - 5;
                    int part = number(2);
                    due(told("chance", a, b, k, part), 19, model.chance(a, b, k, part), mud.chance(a, b, k, part));
                }
                case 20 -> {
                    int law = number(model.laws.size());
                    int what = random.nextBoolean() ? number(3) : 10 + number(32);
                    due(told("together", law, a, b, what), 20, model.together(law, a, b, what),
                            mud.together(law, a, b, what));
                }
                case 21 -> {
                    int law = number(model.laws.size());
                    due(told("lies", law, a, b, i), 21, model.lies(law, a, b, i), mud.lies(law, a, b, i));
                }
                case 22 -> {
                    int law = number(model.laws.size());
                    int times = random.nextInt(40) == 0 ? 60 : 1;
                    for (int t = 0; t < times; t++) {
                        due(told("sure", law, a, b, i), 22, model.sure(law, a, b, i), mud.sure(law, a, b, i));
                    }
                }
                case 23 -> {
                    int low = random.nextInt(20) == 0 ? number(2000) - 1000 : number(spread) - spread / 2;
                    int high = low + number(random.nextBoolean() ? 3 : spread);
                    int doubt = number(random.nextBoolean() ? 3 : 100);
                    due(told("join", a, b, low, high, doubt), 23, model.join(a, b, low, high, doubt),
                            mud.join(a, b, low, high, doubt));
                }
                case 24 -> {
                    int join = number(model.w.joins().size());
                    boolean is = random.nextBoolean();
                    due(told("keep", join, is), 24, model.keep(join, is), mud.keep(join, is));
                }
                case 25 -> {
                    int low = random.nextInt(20) == 0 ? number(20000) - 10000 : number(spread);
                    int high = low + number(spread);
                    due(told("tie", a, low, high), 25, model.tie(a, low, high), mud.tie(a, low, high));
                }
                case 26 -> due(told("untie", a), 26, model.untie(a), mud.untie(a));
                case 27 -> {
                    boolean are = random.nextInt(3) == 0;
                    due(told("ashes", are), 27, model.ashes(are), mud.ashes(are));
                }
                case 28 -> due("closes()", 28, model.closes(), mud.closes());
                case 29 -> {
                    int end = number(2);
                    due(told("span", a, b, end), 29, model.span(a, b, end), mud.span(a, b, end));
                }
                case 30 -> {
                    int end = number(2);
                    due(told("date", a, i, end), 30, model.date(a, i, end), mud.date(a, i, end));
                }
                case 31 -> {
                    int what = number(2);
                    due(told("calendars", what), 31, model.calendars(what), mud.calendars(what));
                }
                case 32 -> {
                    int out = model.castOut();
                    due("castOut()", 32, out, mud.castOut());
                    for (int j = 0; out > 0 && j < 12 && random.nextInt(4) > 0; j++) {
                        if ((out >> j & 1) == 1) {
                            due(told("keep", j, false), 24, model.keep(j, false), mud.keep(j, false));
                        }
                    }
                }
                case 33 -> due(told("hangs", a, b), 33, model.hangs(a, b), mud.hangs(a, b));
                case 34 -> {
                    int what = number(3);
                    due(told("dig", what), 34, model.dig(what), mud.dig(what));
                }
                case 35 -> {
                    int end = number(2);
                    int part = number(2);
                    due(told("pace", a, b, end, part), 35, model.pace(a, b, end, part), mud.pace(a, b, end, part));
                }
                case 36 -> {
                    int end = number(2);
                    due(told("took", a, i, end), 36, model.took(a, i, end), mud.took(a, i, end));
                    tookWhereFloods(end);
                }
                case 37 -> due("image()", 37, model.image(), mud.image());
                case 38 -> {
                    if (random.nextInt(3) == 0) due("restore()", 38, model.restore(), mud.restore());
                }
                case 39 -> {
                    int what = number(10);
                    due(told("count", what), 39, model.count(what), mud.count(what));
                }
                case 40 -> due("digest()", 40, model.digest(), mud.digest());
                default -> due("a new object", 1, new Model().digest(), new LeavesOfMud().digest());
            }
        }

        void tookWhereFloods(int end) {
            for (int p = 0; p < model.w.pits().size(); p++) {
                for (int i = 0; i < model.w.pits().get(p).size(); i++) {
                    if (model.w.pits().get(p).get(i).kind() == 4) {
                        due(told("took", p, i, end), 36, model.took(p, i, end), mud.took(p, i, end));
                    }
                }
            }
        }
    }
}
