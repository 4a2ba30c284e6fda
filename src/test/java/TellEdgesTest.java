import java.math.BigInteger;
import java.util.ArrayList;
import java.util.List;

/** Sentences of the document that name an edge of ice, floods and what is told: promises 35 to 40. */
public final class TellEdgesTest {
    private static final int NONE = Bench.NONE;
    private static final int UNKNOWN = Bench.UNKNOWN;
    private static final int OUTSIDE = Bench.OUTSIDE;
    private static final int STATE = Bench.STATE;
    private static final int MAX = Bench.MAX;
    private static final int MIN = Bench.MIN;
    private static final int[] NO_PITS = {-1, 4, 7, MIN, MAX};

    public static void main(String[] args) {
        paceUnknown();
        paceOutside();
        paceOfLikeMiles();
        paceThatDoesNotClose();
        paceFloating();
        paceWithZeroWithin();
        paceInLowestTerms();
        paceIsOfSizes();
        paceRefusalsInOrder();
        tookUnknown();
        tookOutside();
        tookOfNoFlood();
        tookRefusalsInOrder();
        tookWhereNoOtherPitTells();
        tookFloodBetween();
        tookZeroAtLeast();
        tookFloodForNothing();
        tookTheNearest();
        tookOfTheFirstAndTheLastLeaf();
        tookLeastAndGreatest();
        tookByTheFirstAndTheLastPit();
        tookWhateverTheNet();
        imageEmptyAndFull();
        imageIsTheLatest();
        imageKeepsWhatItKeeps();
        restoreWithoutOne();
        restoreAgain();
        restoreLeavesTheRest();
        restoreToLess();
        countWhat();
        countEmptyAndFull();
        digestOfANewOne();
        digestAsLongs();
        digestChangesNothing();
        digestTellsEach();
        Bench.end();
    }

    // ---- Promise 35

    private static void paceUnknown() {
        for (int pit : NO_PITS) {
            Bench.refused(35, "a " + pit, Bench::ordinary, m -> m.pace(pit, 0, 0, 0), UNKNOWN);
            Bench.refused(35, "b " + pit, Bench::ordinary, m -> m.pace(0, pit, 0, 0), UNKNOWN);
        }
        Bench.refused(35, "pit 7 of seven", Bench::full, m -> m.pace(0, 7, 0, 0), UNKNOWN);
    }

    /** "end 0 the least, 1 the most; part 0 above, 1 below"; "OUTSIDE: end, part". */
    private static void paceOutside() {
        for (int wrong : new int[] {-1, 2, MIN, MAX}) {
            Bench.refused(35, "end " + wrong, () -> joined(30, 4, 9), m -> m.pace(0, 1, wrong, 0), OUTSIDE);
            Bench.refused(35, "part " + wrong, () -> joined(30, 4, 9), m -> m.pace(0, 1, 0, wrong), OUTSIDE);
        }
        int[][] told = {{10, 3}, {15, 2}};
        for (int end = 0; end <= 1; end++) {
            for (int part = 0; part <= 1; part++) {
                int e = end;
                int p = part;
                Bench.told(35, "end " + e + ", part " + p, () -> joined(30, 4, 9), m -> m.pace(0, 1, e, p), told[e][p]);
            }
        }
    }

    /** Two PITS, so many miles apart, THE BOTTOM of the second that of the first and low to high. */
    private static LeavesOfMud joined(int miles, int low, int high) {
        LeavesOfMud mud = new LeavesOfMud();
        mud.pit(0);
        mud.pit(miles);
        mud.join(0, 1, low, high, 0);
        return mud;
    }

    /** "STATE: like MILES": of one PIT, too. */
    private static void paceOfLikeMiles() {
        Bench.refused(35, "like MILES", () -> joined(0, 4, 9), m -> m.pace(0, 1, 0, 0), STATE);
        Bench.refused(35, "one PIT", () -> joined(30, 4, 9), m -> m.pace(1, 1, 0, 0), STATE);
        Bench.told(35, "one mile", () -> joined(1, 4, 9), m -> m.pace(0, 1, 0, 0), 1);
        Bench.told(35, "one mile", () -> joined(1, 4, 9), m -> m.pace(0, 1, 0, 1), 9);
    }

    /** "STATE: .. it does not close". */
    private static void paceThatDoesNotClose() {
        Bench.Made made = () -> {
            LeavesOfMud mud = joined(30, 4, 9);
            mud.join(0, 1, 10, 10, 0);
            return mud;
        };
        Bench.refused(35, "not closed", made, m -> m.pace(0, 1, 0, 0), STATE);
        LeavesOfMud mud = made.now();
        mud.keep(1, false);
        Bench.due(35, "it closes", mud.pace(0, 1, 0, 0), 10);
    }

    /** "STATE: .. FLOATING". */
    private static void paceFloating() {
        Bench.Made made = () -> {
            LeavesOfMud mud = joined(30, 4, 9);
            mud.keep(0, false);
            return mud;
        };
        Bench.refused(35, "floating", made, m -> m.pace(0, 1, 1, 0), STATE);
        LeavesOfMud mud = made.now();
        mud.tie(0, 100, 100);
        mud.tie(1, 104, 109);
        Bench.due(35, "by TIES", mud.pace(0, 1, 0, 0), 10);
    }

    /** "if it has not 0 within"; "or 0 is within". */
    private static void paceWithZeroWithin() {
        int[][] within = {{0, 0}, {-1, 1}, {-1, 0}, {0, 1}, {-999, 999}, {-5, 0}, {0, 5}, {-999, 0}};
        for (int[] one : within) {
            String told = one[0] + " to " + one[1];
            for (int end = 0; end <= 1; end++) {
                int e = end;
                Bench.refused(35, told, () -> joined(30, one[0], one[1]), m -> m.pace(0, 1, e, 0), STATE);
                Bench.refused(35, told + ", turned", () -> joined(30, one[0], one[1]), m -> m.pace(1, 0, e, 1), STATE);
            }
        }
        int[][] beside = {{1, 1}, {1, 5}, {-1, -1}, {-5, -1}};
        for (int[] one : beside) {
            String told = one[0] + " to " + one[1];
            Bench.told(35, told, () -> joined(30, one[0], one[1]), m -> m.pace(0, 1, 1, 0), 30);
            Bench.told(35, told + ", turned", () -> joined(30, one[0], one[1]), m -> m.pace(1, 0, 1, 1), 1);
        }
    }

    /** "in lowest terms". */
    private static void paceInLowestTerms() {
        int[][] told = {{240, 240, 1, 1}, {240, 999, 80, 333}, {240, 1, 240, 1}, {1, 999, 1, 999}, {7, 5, 7, 5},
            {239, 478, 1, 2}, {36, 24, 3, 2}};
        for (int[] one : told) {
            String what = one[0] + " miles by " + one[1];
            LeavesOfMud mud = joined(one[0], one[1], one[1]);
            for (int end = 0; end <= 1; end++) {
                Bench.due(35, what + ", above", mud.pace(0, 1, end, 0), one[2]);
                Bench.due(35, what + ", below", mud.pace(0, 1, end, 1), one[3]);
            }
        }
        LeavesOfMud both = new LeavesOfMud();
        both.pit(240);
        both.pit(210);
        both.join(0, 1, 9, 9, 0);
        Bench.due(35, "the difference of both MILES", both.pace(0, 1, 0, 0), 10);
        Bench.due(35, "the difference of both MILES, turned", both.pace(1, 0, 0, 1), 3);
        LeavesOfMud far = new LeavesOfMud();
        far.pit(0);
        far.pit(240);
        far.tie(0, -9999, -9999);
        far.tie(1, 9999, 9999);
        Bench.due(35, "240 miles by 19998 years", far.pace(0, 1, 0, 0), 40);
        Bench.due(35, "240 miles by 19998 years", far.pace(0, 1, 0, 1), 3333);
    }

    /** "(both sizes)": whichever PIT is further, or older. */
    private static void paceIsOfSizes() {
        int[][] spans = {{4, 9}, {-9, -4}};
        for (int[] span : spans) {
            LeavesOfMud mud = joined(30, span[0], span[1]);
            for (int a = 0; a <= 1; a++) {
                Bench.due(35, "the least, above", mud.pace(a, 1 - a, 0, 0), 10);
                Bench.due(35, "the least, below", mud.pace(a, 1 - a, 0, 1), 3);
                Bench.due(35, "the most, above", mud.pace(a, 1 - a, 1, 0), 15);
                Bench.due(35, "the most, below", mud.pace(a, 1 - a, 1, 1), 2);
            }
        }
    }

    /** "UNKNOWN: a, b; OUTSIDE: end, part; STATE", in that order. */
    private static void paceRefusalsInOrder() {
        for (int a : new int[] {-1, 2, 3, 4}) {
            for (int b : new int[] {-1, 2, 3, 4}) {
                LeavesOfMud mud = Bench.unclosed();
                for (int end : new int[] {-1, 0, 1, 2}) {
                    for (int part : new int[] {-1, 0, 1, 2}) {
                        boolean unknown = a < 0 || a > 3 || b < 0 || b > 3;
                        boolean outside = end < 0 || end > 1 || part < 0 || part > 1;
                        int want = unknown ? UNKNOWN : outside ? OUTSIDE : STATE;
                        String told = "pace " + a + ", " + b + ", " + end + ", " + part;
                        Bench.due(35, told, mud.pace(a, b, end, part), want);
                    }
                }
            }
        }
    }

    // ---- Promise 36

    private static void tookUnknown() {
        for (int pit : NO_PITS) {
            Bench.refused(36, "pit " + pit, Bench::ordinary, m -> m.took(pit, 4, 0), UNKNOWN);
        }
        for (int leaf : new int[] {-1, 8, 16, MIN, MAX}) {
            Bench.refused(36, "leaf " + leaf, Bench::ordinary, m -> m.took(0, leaf, 0), UNKNOWN);
        }
        Bench.refused(36, "an empty PIT", Bench::ordinary, m -> m.took(3, 0, 0), UNKNOWN);
    }

    /** "end 0 the least, 1 the greatest"; "OUTSIDE: end". */
    private static void tookOutside() {
        for (int end : new int[] {-1, 2, MIN, MAX}) {
            Bench.refused(36, "end " + end, Bench::ordinary, m -> m.took(0, 4, end), OUTSIDE);
        }
        // 4 years there: the second ASH begins at 5, the first at 1; 3 here without the FLOOD
        Bench.told(36, "end 0", Bench::ordinary, m -> m.took(0, 4, 0), 1);
        Bench.told(36, "end 1", Bench::ordinary, m -> m.took(0, 4, 1), 1);
    }

    /** "STATE: it is no FLOOD": a SLUMP is none. */
    private static void tookOfNoFlood() {
        for (int kind = 0; kind <= 6; kind++) {
            int other = kind;
            Bench.Made made = () -> {
                LeavesOfMud mud = Bench.ordinary();
                mud.change(0, 4, other, 30, 1);
                return mud;
            };
            Bench.told(36, "kind " + kind, made, m -> m.took(0, 4, 0), kind == Bench.FLOOD ? 1 : STATE);
        }
        Bench.refused(36, "the first LEAF", Bench::ordinary, m -> m.took(0, 0, 0), STATE);
        Bench.refused(36, "a SLUMP", Bench::ordinary, m -> m.took(1, 3, 0), STATE);
    }

    /** "UNKNOWN: pit, leaf; OUTSIDE: end; STATE", in that order. */
    private static void tookRefusalsInOrder() {
        Bench.refused(36, "pit and end", Bench::ordinary, m -> m.took(4, 0, 2), UNKNOWN);
        Bench.refused(36, "leaf and end", Bench::ordinary, m -> m.took(0, 8, -1), UNKNOWN);
        Bench.refused(36, "end, and no FLOOD", Bench::ordinary, m -> m.took(0, 0, 2), OUTSIDE);
        Bench.refused(36, "end, and no FLOOD", Bench::ordinary, m -> m.took(0, 0, -1), OUTSIDE);
    }

    private static final String HERE = "a1.1 f1.3 a1.2";

    /** What the FLOOD, LEAF 1 of PIT 0 as HERE, took by this one other PIT. */
    private static void tookBy(String sentence, String there, int want) {
        for (int end = 0; end <= 1; end++) {
            int asked = end;
            Bench.told(36, sentence + " ('" + there + "')", () -> Bench.rows(HERE, there), m -> m.took(0, 1, asked), want);
        }
    }

    /** "NONE: no other PIT tells". */
    private static void tookWhereNoOtherPitTells() {
        Bench.told(36, "no other PIT", () -> Bench.rows(HERE), m -> m.took(0, 1, 0), NONE);
        tookBy("an empty one", "", NONE);
        tookBy("no ASHES", "l1 l1 l1", NONE);
        tookBy("the one ahead alone", "a1.1 l1 l1", NONE);
        tookBy("the one behind alone", "l1 l1 a1.2", NONE);
        tookBy("both", "a1.1 l1 l1 a1.2", 2);
        tookBy("the one lies behind the other", "a1.2 l1 l1 a1.1", NONE);
        tookBy("WARM is no ASH", "w1.1 l1 l1 a1.2", NONE);
        tookBy("ASHES of other n", "a1.3 l1 l1 a1.4", NONE);
        Bench.told(36, "no ASH ahead here", () -> Bench.rows("l1 f1.3 a1.2", "a1.1 l1 a1.2"), m -> m.took(0, 1, 0), NONE);
        Bench.told(36, "no ASH behind here", () -> Bench.rows("a1.1 f1.3 l1", "a1.1 l1 a1.2"), m -> m.took(0, 1, 0), NONE);
        Bench.told(36, "both here of one n", () -> Bench.rows("a1.1 f1.3 a1.1", "a1.1 l1 a1.1"), m -> m.took(0, 1, 0), NONE);
        // its own first ASH of that n is not one of another PIT
        Bench.told(36, "the PIT itself is no other", () -> Bench.rows(HERE, "l1"), m -> m.took(0, 1, 1), NONE);
    }

    /** "and no FLOOD between" there; a SLUMP may be, and a FLOOD ahead of both or behind both. */
    private static void tookFloodBetween() {
        tookBy("a FLOOD between", "a1.1 l1 f1.0 l1 a1.2", NONE);
        tookBy("a FLOOD right behind the one", "a1.1 f1.5 l1 a1.2", NONE);
        tookBy("a FLOOD right ahead of the other", "a1.1 l1 f1.5 a1.2", NONE);
        tookBy("a SLUMP between", "a1.1 l1 s1.5 l1 a1.2", 2);
        tookBy("a FLOOD ahead of both", "f1.5 a1.1 l1 a1.2", 1);
        tookBy("a FLOOD behind both", "a1.1 l1 a1.2 f1.5", 1);
    }

    /** "0 at least". */
    private static void tookZeroAtLeast() {
        String here = "a1.1 l1 l1 f1.3 l1 a1.2";
        String[] there = {"a1.1 a1.2", "a1.1 l1 l1 a1.2", "a1.1 l1 l1 l1 a1.2", "a1.1 l1 l1 l1 l1 a1.2",
            "a1.1 l1 l1 l1 h1 a1.2", "a1.1 l1 l1 l1 h1 h1 a1.2"};
        int[] want = {0, 0, 0, 1, 0, 1};
        for (int i = 0; i < there.length; i++) {
            LeavesOfMud mud = Bench.rows(here, there[i]);
            Bench.due(36, there[i] + ", least", mud.took(0, 3, 0), want[i]);
            Bench.due(36, there[i] + ", greatest", mud.took(0, 3, 1), want[i]);
        }
        String row = "a1.1 " + Bench.times(14, "l1") + " a1.2";
        Bench.due(36, "the most by whole years", Bench.rows(HERE, row).took(0, 1, 0), 14);
        LeavesOfMud halves = Bench.rows("h1 a1.1 f1.2 h1 a1.2", "a1.1 h1 h1 a1.2", "h1 a1.1 h1 l1 a1.2");
        // here AT 4, less 2 for the FLOOD, less AT 0 (of half a year): 2; there 2, and 3 (less AT 0, too)
        Bench.due(36, "AT is rounded down at both ends, least", halves.took(0, 2, 0), 0);
        Bench.due(36, "AT is rounded down at both ends, greatest", halves.took(0, 2, 1), 1);
    }

    /** "this FLOOD counted for nothing", whatever its n; another one here counts as it does. */
    private static void tookFloodForNothing() {
        for (int n = 0; n <= 9; n++) {
            LeavesOfMud mud = Bench.rows("a1.1 f1." + n + " a1.2", "a1.1 l1 l1 l1 a1.2");
            Bench.due(36, "n " + n, mud.took(0, 1, 0), 3);
        }
        LeavesOfMud two = Bench.rows("a1.1 f1.2 f1.3 a1.2", "a1.1 l1 l1 l1 l1 l1 l1 l1 a1.2");
        Bench.due(36, "the first of two", two.took(0, 1, 0), 4);
        Bench.due(36, "the second of two", two.took(0, 2, 0), 5);
    }

    /** "of ASHES ahead of it the nearest one, .. whose n an ASH of the other PIT has (the first one of that n there)". */
    private static void tookTheNearest() {
        LeavesOfMud near = Bench.rows("a1.1 a1.3 f1.1 a1.4 a1.2", "a1.1 l1 l1 l1 l1 a1.3 l1 a1.4 l1 l1 a1.2");
        Bench.due(36, "the nearest ones", near.took(0, 2, 0), 1);
        LeavesOfMud shared = Bench.rows("a1.1 a1.3 f1.1 a1.4 a1.2", "a1.1 l1 l1 l1 l1 l1 a1.2");
        // there 6, here 3 by the ASHES that both have
        Bench.due(36, "the nearest ones that the other PIT has", shared.took(0, 2, 0), 3);
        LeavesOfMud first = Bench.rows(HERE, "a1.1 l1 l1 a1.2 l1 l1 l1 a1.2");
        Bench.due(36, "the first one of that n there", first.took(0, 1, 1), 2);
        LeavesOfMud twice = Bench.rows(HERE, "a1.1 l1 l1 a1.1 a1.2");
        Bench.due(36, "the first one of that n there", twice.took(0, 1, 1), 3);
        LeavesOfMud again = Bench.rows("a1.1 l1 l1 a1.1 f1.2 a1.2", "a1.1 l1 l1 l1 a1.2");
        Bench.due(36, "the nearest one of that n here", again.took(0, 4, 0), 3);
    }

    /** A FLOOD at either end has none on one side, whatever the PIT beside it has. */
    private static void tookOfTheFirstAndTheLastLeaf() {
        String there = "a1.1 l1 l1 a1.2";
        Bench.due(36, "the first LEAF", Bench.rows("a1.1", "f1.3 a1.2", there).took(1, 0, 0), NONE);
        Bench.due(36, "the last LEAF", Bench.rows("a1.1 f1.3", "a1.2", there).took(0, 1, 0), NONE);
        String full = "a1.1 " + Bench.times(14, "l1") + " f1.3";
        Bench.due(36, "the last of 16", Bench.rows(full, "a1.2", there).took(0, 15, 0), NONE);
        String before = Bench.times(15, "l1") + " a1.1";
        Bench.due(36, "the first behind a full PIT", Bench.rows(before, "f1.3 a1.2", there).took(1, 0, 0), NONE);
        LeavesOfMud ends = Bench.rows("a1.1 f1.3 " + Bench.times(13, "s1") + " a1.2", there);
        Bench.due(36, "ASHES at both ends of 16", ends.took(0, 1, 0), 2);
    }

    /** "Of all other PITS where it is so the least, the greatest." */
    private static void tookLeastAndGreatest() {
        LeavesOfMud mud = Bench.rows("a1.1 l1 l1 l1 a1.2", "a1.1 l1 a1.2", "l1", HERE, "a1.2 a1.1",
                "a1.1 l1 l1 l1 l1 l1 a1.2", "a1.1 f1.9 a1.2");
        Bench.due(36, "the least of three", mud.took(3, 1, 0), 1);
        Bench.due(36, "the greatest of three", mud.took(3, 1, 1), 5);
        mud.change(1, 1, Bench.SLUMP, 1, 0);
        Bench.due(36, "the least is 0", mud.took(3, 1, 0), 0);
        // PIT 6 has a FLOOD, too: by PIT 3, where a FLOOD is between, it is not told
        Bench.due(36, "the other FLOOD, least", mud.took(6, 1, 0), 0);
        Bench.due(36, "the other FLOOD, greatest", mud.took(6, 1, 1), 5);
    }

    /** The first PIT alone tells, or the last one; what stands in the PIT behind a full one is not of it. */
    private static void tookByTheFirstAndTheLastPit() {
        String there = "a1.1 l1 l1 a1.2";
        Bench.due(36, "the first PIT", Bench.rows(there, HERE, "l1").took(1, 1, 0), 2);
        Bench.due(36, "the last of seven", Bench.rows("", HERE, "", "", "", "", there).took(1, 1, 1), 2);
        String full = "a1.1 " + Bench.times(15, "l1");
        Bench.due(36, "an ASH at the bottom of the PIT behind", Bench.rows(HERE, full, "a1.2").took(0, 1, 0), NONE);
        String last = Bench.times(15, "l1") + " a1.1";
        LeavesOfMud seven = Bench.rows("", "", "", "", "", HERE, last);
        Bench.due(36, "the last LEAF of the last PIT", seven.took(5, 1, 0), NONE);
        seven.change(6, 0, Bench.ASH, 1, 1);
        seven.change(6, 15, Bench.ASH, 1, 2);
        Bench.due(36, "the first and the last LEAF of the last PIT", seven.took(5, 1, 0), 14);
    }

    /** It tells of ASHES as they lie: whether IT CLOSES, or ASHES are looked at in the net, is not asked. */
    private static void tookWhateverTheNet() {
        Bench.told(36, "not closed", Bench::unclosed, m -> m.took(0, 4, 0), 1);
        LeavesOfMud mud = Bench.ordinary();
        mud.ashes(false);
        Bench.due(36, "ASHES not looked at", mud.took(0, 4, 0), 1);
    }

    // ---- Promise 37, 38

    /** "how many PITS". */
    private static void imageEmptyAndFull() {
        LeavesOfMud empty = Bench.empty();
        Bench.due(37, "no PITS", empty.image(), 0);
        Bench.due(38, "no PITS", empty.restore(), 0);
        LeavesOfMud full = Bench.full();
        long before = full.digest();
        Bench.due(37, "seven PITS", full.image(), 7);
        full.change(6, 15, Bench.ASH, 99, 9);
        full.keep(11, false);
        full.untie(6);
        full.ashes(false);
        Bench.due(38, "seven PITS", full.restore(), 7);
        Bench.due(38, "the last of all is as it was", full.digest(), before);
        Bench.due(38, "it is full still", full.pit(0), Bench.FULL);
        Bench.due(38, "it is full still", full.leaf(6, 0, 1, 0), Bench.FULL);
        Bench.due(38, "it is full still", full.join(0, 1, 0, 0, 0), Bench.FULL);
    }

    /** "An IMAGE is kept (one; the latest)". */
    private static void imageIsTheLatest() {
        LeavesOfMud mud = Bench.empty();
        for (int pits = 1; pits <= 7; pits++) {
            mud.pit(pits);
            Bench.due(37, "of " + pits, mud.image(), pits);
        }
        Bench.due(38, "the latest", mud.restore(), 7);
        LeavesOfMud less = Bench.full();
        less.restore();
        Bench.due(37, "what was restored, kept again", less.image(), 7);
        LeavesOfMud back = Bench.ordinary();
        back.restore();
        Bench.due(39, "the older one had no JOINS", back.count(4), 0);
        back.pit(3);
        back.image();
        back.pit(3);
        Bench.due(38, "the later one has a PIT more", back.restore(), 5);
    }

    /** "An IMAGE keeps PITS with LEAVES, JOINS, TIES, whether ASHES are looked at": each on its own. */
    private static void imageKeepsWhatItKeeps() {
        Bench.Call[] changes = {m -> m.pit(9), m -> m.leaf(3, 0, 1, 0), m -> m.lay(3, 1, 20, 0, 0),
            m -> m.change(0, 0, 1, 1, 1), m -> m.change(0, 0, 0, 13, 0), m -> m.change(0, 0, 0, 12, 1),
            m -> m.change(1, 6, 0, 8, 2), m -> m.join(0, 1, 0, 0, 0), m -> m.keep(0, false), m -> m.keep(1, true),
            m -> m.tie(0, 1, 1), m -> m.tie(1, 1, 1), m -> m.untie(1), m -> m.ashes(false)};
        for (int i = 0; i < changes.length; i++) {
            LeavesOfMud mud = Bench.ordinary();
            long before = mud.digest();
            mud.image();
            changes[i].on(mud);
            Bench.due(38, "change " + i + " is seen", mud.digest() == before ? 0 : 1, 1);
            Bench.due(38, "four PITS", mud.restore(), 4);
            Bench.due(38, "change " + i + " is taken back", mud.digest(), before);
        }
        LeavesOfMud off = Bench.ordinary();
        off.ashes(false);
        off.image();
        off.ashes(true);
        off.restore();
        Bench.due(38, "ASHES were not looked at", off.ashes(true), 0);
    }

    /** "STATE: none was kept". */
    private static void restoreWithoutOne() {
        Bench.refused(38, "a new object", Bench::empty, m -> m.restore(), STATE);
        Bench.refused(38, "PITS, and none kept", () -> Bench.rows("l1", "l2"), m -> m.restore(), STATE);
        LeavesOfMud mud = Bench.rows("l1");
        mud.restore();
        Bench.due(38, "a refused one keeps none", mud.restore(), STATE);
    }

    /** What is done behind restore() does not change the IMAGE. */
    private static void restoreAgain() {
        LeavesOfMud mud = Bench.rows("l1 l2", "l3");
        mud.join(0, 1, 5, 5, 0);
        mud.tie(0, 7, 7);
        long before = mud.digest();
        mud.image();
        for (int time = 1; time <= 3; time++) {
            mud.change(0, 0, 1, 50 + time, 0);
            mud.leaf(1, 0, 9, 0);
            mud.keep(0, false);
            mud.tie(0, 9, 9);
            Bench.due(38, "time " + time, mud.restore(), 2);
            Bench.due(38, "as it was, time " + time, mud.digest(), before);
        }
    }

    /** HANDS, LAWS, THE PAGE, how often sure() and dig() were done are not of the IMAGE: they go on. */
    private static void restoreLeavesTheRest() {
        LeavesOfMud mud = Bench.rows("l1", "l2");
        mud.image();
        Bench.handOf(mud, "l9");
        Bench.lawOf(mud, "l9");
        mud.sure(0, 0, 1, 0);
        mud.dig(0);
        Bench.write(mud, "abc");
        mud.restore();
        int[] told = {2, 2, 1, 1, 0, 0, 0, 3, 1, 1};
        for (int what = 0; what <= 9; what++) {
            Bench.due(38, "count " + what, mud.count(what), told[what]);
        }
        Bench.due(38, "the HAND tells", mud.at(0, 0, 1), 4);
        Bench.due(38, "the LAW tells", mud.together(0, 0, 1, 0), 1);
    }

    /** From seven PITS back to none: what comes then is as on a new object. */
    private static void restoreToLess() {
        LeavesOfMud mud = Bench.empty();
        mud.image();
        for (int pit = 0; pit < 7; pit++) {
            mud.pit(100);
            mud.lay(pit, 5, 20, 0, 0);
            mud.leaf(pit, Bench.ASH, 9, 1);
            mud.tie(pit, 3, 3);
        }
        for (int join = 0; join < 12; join++) {
            mud.join(0, 6, 4, 4, 9);
        }
        Bench.due(38, "no PITS", mud.restore(), 0);
        Bench.due(38, "as a new object", mud.digest(), Bench.empty().digest());
        Bench.due(38, "PIT 0 is not there", mud.about(0, NONE, 0), UNKNOWN);
        Bench.due(2, "PIT 0 anew", mud.pit(7), 0);
        Bench.due(2, "its MILES", mud.about(0, NONE, 0), 7);
        Bench.due(2, "no LEAVES", mud.about(0, NONE, 1), 0);
        Bench.due(3, "its first LEAF", mud.leaf(0, 0, 1, 0), 1);
        Bench.due(26, "no TIE", mud.untie(0), 0);
        Bench.due(2, "PIT 1 anew", mud.pit(8), 1);
        Bench.due(29, "no JOIN", mud.span(0, 1, 0), Bench.WIDE_NONE);
        Bench.due(23, "JOIN 0 anew", mud.join(0, 1, 1, 1, 1), 0);
    }

    // ---- Promise 39

    /** "0 PITS, .. 9 dig()"; "OUTSIDE". */
    private static void countWhat() {
        for (int what : new int[] {-1, 10, MIN, MAX}) {
            Bench.refused(39, "what " + what, Bench::ordinary, m -> m.count(what), OUTSIDE);
            Bench.refused(39, "what " + what + " of an empty one", Bench::empty, m -> m.count(what), OUTSIDE);
        }
        int[] told = {4, 17, 2, 2, 2, 1, 1, 2, 1, 1};
        for (int what = 0; what <= 9; what++) {
            int asked = what;
            Bench.told(39, "what " + what, Bench::ordinary, m -> m.count(asked), told[what]);
        }
    }

    private static void countEmptyAndFull() {
        int[] told = {7, 112, 4, 4, 12, 12, 7, 30, 100, 8};
        for (int what = 0; what <= 9; what++) {
            int asked = what;
            Bench.told(39, "what " + what + " of a new one", Bench::empty, m -> m.count(asked), 0);
            Bench.told(39, "what " + what + " of a full one", Bench::full, m -> m.count(asked), told[what]);
        }
    }

    // ---- Promise 40

    private static long folded(List<Long> numbers) {
        BigInteger h = BigInteger.valueOf(379);
        for (long number : numbers) {
            h = h.multiply(BigInteger.valueOf(31)).add(BigInteger.valueOf(number));
        }
        return h.longValue();
    }

    /** Whether ASHES are looked at, closes(), calendars(0), and ten counts: there is nothing else. */
    private static void digestOfANewOne() {
        List<Long> numbers = new ArrayList<>(List.of(1L, 1L, 0L));
        for (int what = 0; what <= 9; what++) {
            numbers.add(0L);
        }
        Bench.told(40, "a new object", Bench::empty, m -> m.digest(), folded(numbers));
        LeavesOfMud off = Bench.empty();
        off.ashes(false);
        numbers.set(0, 0L);
        Bench.due(40, "ASHES not looked at", off.digest(), folded(numbers));
    }

    /** Of PITS and LAWS what the calls tell, in the document's order; each part is asked of an object of its own. */
    private static List<Long> numbersOf(Bench.Made made) {
        List<Long> all = new ArrayList<>();
        LeavesOfMud mud = made.now();
        int pits = mud.count(0);
        for (int pit = 0; pit < pits; pit++) {
            LeavesOfMud one = made.now();
            all.add((long) one.about(pit, NONE, 0));
            for (int leaf = 0; leaf < one.about(pit, NONE, 1); leaf++) {
                for (int what = 0; what <= 2; what++) {
                    all.add((long) one.about(pit, leaf, what));
                }
            }
            for (int hand = NONE; hand < mud.count(2); hand++) {
                all.add((long) one.years(hand, pit));
            }
        }
        LeavesOfMud pairs = made.now();
        for (int law = 0; law < mud.count(3); law++) {
            for (int a = 0; a < pits; a++) {
                for (int b = a + 1; b < pits; b++) {
                    all.add((long) pairs.together(law, a, b, 0));
                }
            }
        }
        return all;
    }

    /** Behind JOINS and TIES, which no call tells. */
    private static void addNet(List<Long> all, Bench.Made made, String page) {
        LeavesOfMud mud = made.now();
        all.add((long) made.now().ashes(true));
        all.add((long) mud.closes());
        for (int a = 0; a < mud.count(0) && mud.closes() == 1; a++) {
            for (int b = a + 1; b < mud.count(0); b++) {
                all.add((long) mud.span(a, b, 0));
                all.add((long) mud.span(a, b, 1));
            }
        }
        all.add((long) mud.calendars(0));
        for (char letter : page.toCharArray()) {
            all.add((long) letter);
        }
        for (int what = 0; what <= 9; what++) {
            all.add((long) mud.count(what));
        }
    }

    /** "(as longs, wrapping)": worlds of many numbers. */
    private static void digestAsLongs() {
        List<Long> full = numbersOf(Bench::full);
        for (int i = 0; i < 12; i++) {
            full.addAll(List.of(i % 6L, 6L, i - 30L, i + 20L, (long) i, 1L));
        }
        for (int pit = 0; pit < 7; pit++) {
            full.addAll(List.of((long) pit, -20L, 30L + pit));
        }
        addNet(full, Bench::full, "abcdefghijklmnopqrstuvwxyz~!?.");
        Bench.told(40, "as much as there may be", Bench::full, m -> m.digest(), folded(full));
        List<Long> bonds = List.of(1L, 2L, -3L, 4L, 30L, 1L, 0L, 2L, 2L, 9L, 10L, 0L);
        List<Long> ordinary = numbersOf(Bench::ordinary);
        ordinary.addAll(bonds);
        ordinary.addAll(List.of(1L, -8800L, -8790L));
        addNet(ordinary, Bench::ordinary, "l4");
        Bench.told(40, "an ordinary one", Bench::ordinary, m -> m.digest(), folded(ordinary));
        List<Long> unclosed = numbersOf(Bench::unclosed);
        unclosed.addAll(bonds);
        unclosed.addAll(List.of(0L, 1L, 50L, 50L, 5L, 1L));
        unclosed.addAll(List.of(1L, -8800L, -8790L));
        addNet(unclosed, Bench::unclosed, "l4");
        Bench.told(40, "one that does not close", Bench::unclosed, m -> m.digest(), folded(unclosed));
    }

    private static void digestChangesNothing() {
        LeavesOfMud mud = Bench.ordinary();
        long first = mud.digest();
        for (int time = 2; time <= 4; time++) {
            Bench.due(40, "time " + time, mud.digest(), first);
        }
    }

    /** Each thing that is told changes it: a letter, a HAND, a LAW, a DOUBT, how often sure() and dig() were done. */
    private static void digestTellsEach() {
        Bench.Call[] changes = {m -> m.letters('x'), m -> m.blank(), m -> Bench.handOf(m, ",w1"),
            m -> Bench.lawOf(m, "4,d1"), m -> m.sure(0, 0, 1, 0), m -> m.dig(0), m -> m.ashes(false), m -> m.untie(1),
            m -> m.tie(1, -8800, -8789), m -> m.tie(0, -8800, -8790), m -> m.keep(0, false), m -> m.keep(1, true),
            m -> m.join(0, 1, 0, 0, 0), m -> m.pit(0), m -> m.leaf(3, 6, 1, 0), m -> m.change(0, 0, 0, 12, 1)};
        for (int i = 0; i < changes.length; i++) {
            LeavesOfMud mud = Bench.ordinary();
            long before = mud.digest();
            Bench.due(40, "change " + i + " is taken", changes[i].on(mud) < NONE ? 1 : 0, 0);
            Bench.due(40, "change " + i + " is told", mud.digest() == before ? 1 : 0, 0);
        }
        Bench.due(40, "an IMAGE is not told", imaged().digest(), Bench.rows("l1").digest());
    }

    private static LeavesOfMud imaged() {
        LeavesOfMud mud = Bench.rows("l1");
        mud.image();
        return mud;
    }
}
