import java.util.ArrayList;
import java.util.List;
import java.util.Random;

/**
 * Small worlds by a seed, asked what they are by their terms alone: every way TOGETHER is gone, one by one, and every
 * year that a BOTTOM may be is tried. No least way through a grid or a table is looked for here.
 */
public final class BruteTest {
    private static final int NONE = Bench.NONE;
    private static final int STATE = Bench.STATE;
    private static final int WIDE_STATE = Bench.WIDE_STATE;
    private static final int WIDE_NONE = Bench.WIDE_NONE;

    public static void main(String[] args) {
        int worlds = args.length > 0 ? Integer.parseInt(args[0]) : 1500;
        for (int seed = 0; seed < worlds; seed++) {
            new Together(new Random(seed)).ask();
            new Net(new Random(seed)).ask();
        }
        Bench.end();
    }

    /** KIND, THICKNESS and n of each LEAF; ASHES and HALVES are many. */
    private static int[][] leaves(Random random, int most) {
        int[][] row = new int[random.nextInt(most + 1)][];
        for (int i = 0; i < row.length; i++) {
            int die = random.nextInt(12);
            int kind = die < 4 ? Bench.ASH : die < 7 ? Bench.HALF : random.nextInt(7);
            row[i] = new int[] {kind, 1 + random.nextInt(6), random.nextInt(3)};
        }
        return row;
    }

    private static void lay(LeavesOfMud mud, int miles, int[][] row) {
        int pit = mud.pit(miles);
        for (int[] leaf : row) {
            mud.leaf(pit, leaf[0], leaf[1], leaf[2]);
        }
    }

    /** Where a LEAF begins, by THE PLAIN HAND. */
    private static int at(int[][] row, int leaf) {
        int halves = 0;
        for (int i = 0; i < leaf; i++) {
            int kind = row[i][0];
            halves += kind == Bench.HALF ? 1 : kind == Bench.FLOOD ? 2 * row[i][2] : kind == Bench.SLUMP ? 0 : 2;
        }
        return halves / 2;
    }

    /** Two PITS of four LEAVES at most: all ways, with their prices. */
    private static final class Together {
        private final int lost;
        private final int doubled;
        private final int unlike;
        private final int ashes;
        private final int[][] first;
        private final int[][] second;
        private final List<String> ways = new ArrayList<>();
        private final List<Integer> prices = new ArrayList<>();

        Together(Random random) {
            lost = random.nextInt(6);
            doubled = random.nextInt(4);
            unlike = random.nextInt(3);
            ashes = random.nextInt(9);
            first = leaves(random, 4);
            second = leaves(random, 4);
            go("", 0, 0, 0);
        }

        private void go(String way, int i, int j, int price) {
            if (i == first.length && j == second.length) {
                ways.add(way);
                prices.add(price);
                return;
            }
            boolean oneHere = i + 1 <= first.length;
            boolean twoHere = i + 2 <= first.length;
            boolean oneThere = j + 1 <= second.length;
            boolean twoThere = j + 2 <= second.length;
            if (oneHere && oneThere) {
                go(way + "0", i + 1, j + 1, price + priceOfPair(first[i], second[j]));
            }
            if (oneHere) {
                go(way + "1", i + 1, j, price + lost);
            }
            if (oneThere) {
                go(way + "2", i, j + 1, price + lost);
            }
            if (oneHere && twoThere) {
                go(way + "3", i + 1, j + 2, price + priceOfThree(first[i], second[j], second[j + 1]));
            }
            if (twoHere && oneThere) {
                go(way + "4", i + 2, j + 1, price + priceOfThree(second[j], first[i], first[i + 1]));
            }
        }

        private int priceOfPair(int[] one, int[] other) {
            boolean ash = one[0] == Bench.ASH;
            boolean otherAsh = other[0] == Bench.ASH;
            boolean apart = ash != otherAsh || ash && one[2] != other[2];
            return unlike * Math.abs(one[1] - other[1]) + (apart ? ashes : 0);
        }

        private int priceOfThree(int[] one, int[] two, int[] three) {
            int price = doubled + unlike * Math.abs(one[1] - (two[1] + three[1]));
            for (int[] leaf : new int[][] {one, two, three}) {
                price += leaf[0] == Bench.ASH ? ashes : 0;
            }
            return price;
        }

        /** The place in the second of the LEAF's STEP in that way, and the STEP's sort: {place, sort}. */
        private static int[] lies(String way, int leaf) {
            int i = 0;
            int j = 0;
            for (char step : way.toCharArray()) {
                int here = step == '2' ? 0 : step == '4' ? 2 : 1;
                if (leaf >= i && leaf < i + here) {
                    return new int[] {step == '1' ? NONE : j, step - '0'};
                }
                i += here;
                j += step == '1' ? 0 : step == '3' ? 2 : 1;
            }
            return null;
        }

        void ask() {
            LeavesOfMud mud = new LeavesOfMud();
            lay(mud, 0, first);
            lay(mud, 0, second);
            Bench.lawOf(mud, "l" + lost + ",d" + doubled + ",u" + unlike + ",a" + ashes);
            int least = Integer.MAX_VALUE;
            for (int price : prices) {
                least = Math.min(least, price);
            }
            int many = 0;
            String theWay = null;
            for (int i = 0; i < ways.size(); i++) {
                if (prices.get(i) == least) {
                    many++;
                    theWay = theWay == null || ways.get(i).compareTo(theWay) < 0 ? ways.get(i) : theWay;
                }
            }
            Bench.due(20, "LEAST", mud.together(0, 0, 1, 0), least);
            Bench.due(20, "WAYS", mud.together(0, 0, 1, 1), many);
            Bench.due(20, "STEPS", mud.together(0, 0, 1, 2), theWay.length());
            for (int i = 0; i < 32; i++) {
                int step = i < theWay.length() ? theWay.charAt(i) - '0' : NONE;
                Bench.due(20, "STEP " + i + " of " + theWay, mud.together(0, 0, 1, 10 + i), step);
            }
            for (int leaf = 0; leaf < first.length; leaf++) {
                int[] place = lies(theWay, leaf);
                Bench.due(21, "LIES of " + leaf, mud.lies(0, 0, 1, leaf), place[0]);
                int sure = place[1] == 0 ? leastWithout(leaf, place[0]) - least : NONE;
                Bench.due(22, "SURE of " + leaf, mud.sure(0, 0, 1, leaf), sure);
            }
        }

        private int leastWithout(int leaf, int on) {
            int least = Integer.MAX_VALUE;
            for (int i = 0; i < ways.size(); i++) {
                int[] place = lies(ways.get(i), leaf);
                if (place[1] != 0 || place[0] != on) {
                    least = Math.min(least, prices.get(i));
                }
            }
            return least;
        }
    }

    /** How far two PITS are apart, and when each begins, over all years tried. */
    private static final class Years {
        private boolean any = false;
        private final boolean[][][] apart;
        private final boolean[][] begins;

        Years(int pits, int box) {
            apart = new boolean[pits][pits][4 * box + 1];
            begins = new boolean[pits][2 * box + 1];
        }

        static int first(boolean[] all) {
            for (int i = 0; i < all.length; i++) {
                if (all[i]) {
                    return i - all.length / 2;
                }
            }
            return 0;
        }

        static int last(boolean[] all) {
            for (int i = all.length - 1; i >= 0; i--) {
                if (all[i]) {
                    return i - all.length / 2;
                }
            }
            return 0;
        }
    }

    /** Two to four PITS with JOINS, TIES and ASHES of few years, so that a small box of years has all that may be. */
    private static final class Net {
        private static final int BOX = 16;

        private final int pits;
        private final int[] miles;
        private final int[][][] rows;
        private final int[][] joins;
        private final int[][] ties;
        private final boolean ashes;
        private boolean tied = false;

        Net(Random random) {
            pits = 2 + random.nextInt(3);
            miles = new int[pits];
            rows = new int[pits][][];
            ties = new int[pits][];
            boolean manyTies = random.nextInt(3) == 0;
            for (int pit = 0; pit < pits; pit++) {
                miles[pit] = 6 * random.nextInt(4);
                rows[pit] = leaves(random, 3);
                if (manyTies && random.nextBoolean()) {
                    int low = random.nextInt(4) - 2;
                    ties[pit] = new int[] {low, low + random.nextInt(3)};
                    tied = true;
                }
            }
            ashes = random.nextInt(3) > 0;
            joins = new int[random.nextInt(6)][];
            for (int join = 0; join < joins.length; join++) {
                int a = random.nextInt(pits);
                int b = (a + 1 + random.nextInt(pits - 1)) % pits;
                int low = random.nextInt(5) - 2;
                joins[join] = new int[] {a, b, low, low + random.nextInt(3), random.nextInt(4), random.nextInt(5)};
            }
        }

        private boolean isKept(int join) {
            return joins[join][5] > 0;
        }

        /** All years of a box that go with all that is kept but those cast, and with what was found, if it was. */
        private Years years(int box, int cast, int[] found) {
            Years all = new Years(pits, box);
            fill(all, box, new int[pits], 0, cast, found);
            return all;
        }

        private void fill(Years all, int box, int[] bottoms, int pit, int cast, int[] found) {
            if (pit == pits) {
                all.any = true;
                for (int a = 0; a < pits; a++) {
                    all.begins[a][bottoms[a] + box] = true;
                    for (int b = 0; b < pits; b++) {
                        all.apart[a][b][bottoms[b] - bottoms[a] + 2 * box] = true;
                    }
                }
                return;
            }
            // without TIES only how far they are apart counts: the first one stays where it is
            int most = pit == 0 && !tied ? 0 : box;
            for (int year = -most; year <= most; year++) {
                bottoms[pit] = year;
                if (mayBe(bottoms, pit, cast, found)) {
                    fill(all, box, bottoms, pit + 1, cast, found);
                }
            }
        }

        /** Whether that PIT's BOTTOM goes with those of the PITS ahead of it. */
        private boolean mayBe(int[] bottoms, int pit, int cast, int[] found) {
            if (ties[pit] != null && (bottoms[pit] < ties[pit][0] || bottoms[pit] > ties[pit][1])) {
                return false;
            }
            for (int join = 0; join < joins.length; join++) {
                if (isKept(join) && (cast >> join & 1) == 0 && breaks(bottoms, pit, joins[join])) {
                    return false;
                }
            }
            if (found != null && breaks(bottoms, pit, found)) {
                return false;
            }
            for (int other = 0; other < pit && ashes; other++) {
                for (int n = 0; n < 3; n++) {
                    int here = firstAsh(rows[pit], n);
                    int there = firstAsh(rows[other], n);
                    if (here != NONE && there != NONE
                            && bottoms[pit] + at(rows[pit], here) != bottoms[other] + at(rows[other], there)) {
                        return false;
                    }
                }
            }
            return true;
        }

        private static boolean breaks(int[] bottoms, int pit, int[] join) {
            if (Math.max(join[0], join[1]) != pit) {
                return false;
            }
            int apart = bottoms[join[1]] - bottoms[join[0]];
            return apart < join[2] || apart > join[3];
        }

        private static int firstAsh(int[][] row, int n) {
            for (int leaf = 0; leaf < row.length; leaf++) {
                if (row[leaf][0] == Bench.ASH && row[leaf][2] == n) {
                    return leaf;
                }
            }
            return NONE;
        }

        private LeavesOfMud made() {
            LeavesOfMud mud = new LeavesOfMud();
            for (int pit = 0; pit < pits; pit++) {
                lay(mud, miles[pit], rows[pit]);
                if (ties[pit] != null) {
                    mud.tie(pit, ties[pit][0], ties[pit][1]);
                }
            }
            for (int join = 0; join < joins.length; join++) {
                int[] one = joins[join];
                mud.join(one[0], one[1], one[2], one[3], one[4]);
                mud.keep(join, isKept(join));
            }
            mud.ashes(ashes);
            return mud;
        }

        void ask() {
            LeavesOfMud mud = made();
            Years years = years(BOX, 0, null);
            Bench.due(28, "closes", mud.closes(), years.any ? 1 : 0);
            Bench.due(32, "CAST OUT", mud.castOut(), castOut());
            // what has no bound is wider in a wider box
            Years wider = years(BOX + 2, 0, null);
            for (int a = 0; a < pits; a++) {
                askDates(mud, a, years, wider);
                for (int b = 0; b < pits; b++) {
                    askPair(mud, a, b, years, wider);
                }
            }
            if (years.any) {
                askCalendars(mud, years, wider);
            }
            int[] dig = years.any ? dig(years, wider) : new int[] {STATE, STATE, STATE};
            for (int what = 0; what <= 2; what++) {
                Bench.due(34, "DIG, what " + what, mud.dig(what), dig[what]);
            }
        }

        private static boolean floats(boolean[] box, boolean[] wider) {
            return Years.first(box) != Years.first(wider) || Years.last(box) != Years.last(wider);
        }

        private void askPair(LeavesOfMud mud, int a, int b, Years years, Years wider) {
            boolean floating = floats(years.apart[a][b], wider.apart[a][b]);
            int low = Years.first(years.apart[a][b]);
            int high = Years.last(years.apart[a][b]);
            if (!years.any) {
                low = WIDE_STATE;
                high = WIDE_STATE;
            } else if (floating) {
                low = WIDE_NONE;
                high = WIDE_NONE;
            }
            Bench.due(29, "SPAN, least", mud.span(a, b, 0), low);
            Bench.due(29, "SPAN, greatest", mud.span(a, b, 1), high);
            boolean told = years.any && !floating;
            Bench.due(33, "HANGS", mud.hangs(a, b), told ? hangs(a, b, years) : STATE);
            askPace(mud, a, b, told ? years.apart[a][b] : null);
        }

        /** Each JOIN without which they may be further apart than with it. */
        private int hangs(int a, int b, Years years) {
            int bits = 0;
            for (int join = 0; join < joins.length; join++) {
                boolean wider = isKept(join) && floats(years.apart[a][b], years(BOX, 1 << join, null).apart[a][b]);
                bits |= wider ? 1 << join : 0;
            }
            return bits;
        }

        private void askPace(LeavesOfMud mud, int a, int b, boolean[] apart) {
            int way = Math.abs(miles[a] - miles[b]);
            boolean told = way > 0 && apart != null && !apart[apart.length / 2];
            int[][] paces = {{STATE, STATE}, {STATE, STATE}};
            for (int i = 0; told && i < apart.length; i++) {
                int by = Math.abs(i - apart.length / 2);
                // as products, the years being above 0: way by so many years against the pace that is known
                if (apart[i] && (paces[0][0] == STATE || way * paces[0][1] < paces[0][0] * by)) {
                    paces[0] = new int[] {way, by};
                }
                if (apart[i] && (paces[1][0] == STATE || way * paces[1][1] > paces[1][0] * by)) {
                    paces[1] = new int[] {way, by};
                }
            }
            for (int end = 0; end <= 1; end++) {
                int common = told ? greatestThatDivides(paces[end][0], paces[end][1]) : 1;
                Bench.due(35, "PACE above", mud.pace(a, b, end, 0), paces[end][0] / common);
                Bench.due(35, "PACE below", mud.pace(a, b, end, 1), paces[end][1] / common);
            }
        }

        private static int greatestThatDivides(int one, int other) {
            int greatest = 1;
            for (int i = 1; i <= one; i++) {
                greatest = one % i == 0 && other % i == 0 ? i : greatest;
            }
            return greatest;
        }

        private void askDates(LeavesOfMud mud, int pit, Years years, Years wider) {
            // a world without TIES has its first BOTTOM in no year at all
            boolean floating = !tied || floats(years.begins[pit], wider.begins[pit]);
            for (int leaf = 0; leaf < rows[pit].length; leaf++) {
                int at = at(rows[pit], leaf);
                int refusal = years.any ? WIDE_NONE : WIDE_STATE;
                boolean told = years.any && !floating;
                Bench.due(30, "DATE, least", mud.date(pit, leaf, 0), told ? Years.first(years.begins[pit]) + at : refusal);
                Bench.due(30, "DATE, greatest", mud.date(pit, leaf, 1), told ? Years.last(years.begins[pit]) + at : refusal);
            }
        }

        /** PITS of a CALENDAR are those between which nothing floats. */
        private void askCalendars(LeavesOfMud mud, Years years, Years wider) {
            int many = 0;
            int ofFirst = 0;
            for (int pit = 0; pit < pits; pit++) {
                boolean isNew = true;
                for (int ahead = 0; ahead < pit; ahead++) {
                    isNew &= floats(years.apart[ahead][pit], wider.apart[ahead][pit]);
                }
                many += isNew ? 1 : 0;
                ofFirst |= floats(years.apart[0][pit], wider.apart[0][pit]) ? 0 : 1 << pit;
            }
            Bench.due(31, "CALENDARS", mud.calendars(0), many);
            Bench.due(31, "that of PIT 0", mud.calendars(1), ofFirst);
        }

        private int castOut() {
            int best = NONE;
            for (int bits = 0; bits < 1 << joins.length; bits++) {
                boolean allKept = true;
                for (int join = 0; join < joins.length; join++) {
                    allKept &= (bits >> join & 1) == 0 || isKept(join);
                }
                // bits go up, so that of like ones the first stays
                if (allKept && (best == NONE || rank(bits) < rank(best)) && years(BOX, bits, null).any) {
                    best = bits;
                }
            }
            return best;
        }

        /** The fewer JOINS, then the more DOUBT, the less. */
        private int rank(int bits) {
            int doubt = 0;
            for (int join = 0; join < joins.length; join++) {
                doubt += (bits >> join & 1) * joins[join][4];
            }
            return 1000 * Integer.bitCount(bits) - doubt;
        }

        private int[] dig(Years years, Years wider) {
            int[] best = {NONE, NONE, NONE};
            for (int a = 0; a < pits; a++) {
                for (int b = a + 1; b < pits; b++) {
                    boolean[] apart = years.apart[a][b];
                    int low = Years.first(apart);
                    int width = Years.last(apart) - low;
                    if (floats(apart, wider.apart[a][b]) || width < 1 || width > 40) {
                        continue;
                    }
                    int worst = 0;
                    for (int i = 0; i <= width; i++) {
                        worst = Math.max(worst, widthsIf(new int[] {a, b, low + i, low + i}, years, wider));
                    }
                    if (best[2] == NONE || worst < best[2]) {
                        best = new int[] {a, b, worst};
                    }
                }
            }
            return best;
        }

        private int widthsIf(int[] found, Years years, Years wider) {
            Years then = years(BOX, 0, found);
            int sum = 0;
            for (int c = 0; c < pits; c++) {
                for (int d = c + 1; d < pits; d++) {
                    boolean floating = floats(years.apart[c][d], wider.apart[c][d]);
                    sum += floating ? 0 : Years.last(then.apart[c][d]) - Years.first(then.apart[c][d]);
                }
            }
            return sum;
        }
    }
}
