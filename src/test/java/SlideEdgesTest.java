import java.math.BigInteger;

/** Sentences of the document that name an edge of slides and of two PITS together: promises 16 to 22. */
public final class SlideEdgesTest {
    private static final int NONE = Bench.NONE;
    private static final int UNKNOWN = Bench.UNKNOWN;
    private static final int OUTSIDE = Bench.OUTSIDE;
    private static final int STATE = Bench.STATE;
    private static final int WIDE_UNKNOWN = Bench.WIDE_UNKNOWN;
    private static final int WIDE_OUTSIDE = Bench.WIDE_OUTSIDE;
    private static final int WIDE_NONE = Bench.WIDE_NONE;
    private static final int MAX = Bench.MAX;
    private static final int MIN = Bench.MIN;

    public static void main(String[] args) {
        slidesUnknownPits();
        slidesAreFromMinus15To15();
        slidesOfFullPits();
        slidesWhereNoneLiesOnAnother();
        slidesOfEmptyPits();
        slidesOfThePitItself();
        likeByStepsOfTheFirst();
        likeOfAshes();
        likeMostAndLeast();
        slideWithMOverIs1To16();
        slideOfLikeOnes();
        slideMinusOneIsNotNone();
        slideRefusalsInOrder();
        chanceParts();
        chanceRefusalsInOrder();
        chanceOfOneLeaf();
        chanceStepsAreAsTheyAreThen();
        chanceOfAllTurns();
        chanceInLowestTerms();
        togetherUnknown();
        togetherWhat();
        togetherRefusalsInOrder();
        togetherBothEmpty();
        togetherOneEmpty();
        togetherOfOneLeafEach();
        togetherWaysAtMost();
        togetherStepsAtMost();
        togetherTheWayIsTheLeast();
        togetherMostPrice();
        togetherAshesAreOfOneKind();
        togetherOfThePitItself();
        liesUnknown();
        liesOnTheLesserOfTwo();
        liesAlone();
        sureUnknown();
        sureOnlyOfAStep0();
        sureIsZeroIfAsCheap();
        sureMost();
        sureIsDone100Times();
        sureRefusedIsNotDone();
        Bench.end();
    }

    private static final int[] NO_PITS = {-1, 4, 7, MIN, MAX};

    // ---- Promises 16 to 19

    /** "UNKNOWN as -100001: pits"; "UNKNOWN: pits". */
    private static void slidesUnknownPits() {
        for (int pit : NO_PITS) {
            Bench.refused(16, "first " + pit, Bench::ordinary, m -> m.like(pit, 0, 0), WIDE_UNKNOWN);
            Bench.refused(16, "second " + pit, Bench::ordinary, m -> m.like(0, pit, 0), WIDE_UNKNOWN);
            Bench.refused(17, "first " + pit, Bench::ordinary, m -> m.over(pit, 0, 0), UNKNOWN);
            Bench.refused(17, "second " + pit, Bench::ordinary, m -> m.over(0, pit, 0), UNKNOWN);
            Bench.refused(18, "first " + pit, Bench::ordinary, m -> m.slide(pit, 0, 1), WIDE_UNKNOWN);
            Bench.refused(18, "second " + pit, Bench::ordinary, m -> m.slide(0, pit, 1), WIDE_UNKNOWN);
            Bench.refused(19, "first " + pit, Bench::ordinary, m -> m.chance(pit, 0, 0, 0), UNKNOWN);
            Bench.refused(19, "second " + pit, Bench::ordinary, m -> m.chance(0, pit, 0, 0), UNKNOWN);
        }
        Bench.told(17, "the last of seven", Bench::full, m -> m.over(6, 6, 0), 16);
        Bench.refused(17, "behind the last of seven", Bench::full, m -> m.over(6, 7, 0), UNKNOWN);
    }

    /** "A SLIDE k (-15 to 15)". */
    private static void slidesAreFromMinus15To15() {
        for (int k : new int[] {-16, 16, MIN, MAX}) {
            Bench.refused(16, "k " + k, Bench::full, m -> m.like(0, 1, k), WIDE_OUTSIDE);
            Bench.refused(17, "k " + k, Bench::full, m -> m.over(0, 1, k), OUTSIDE);
            Bench.refused(19, "k " + k, Bench::full, m -> m.chance(0, 1, k, 0), OUTSIDE);
        }
        for (int k : new int[] {-15, 15}) {
            // the one that lies on the other is the first of its PIT: its STEP is 0
            Bench.told(16, "k " + k, Bench::full, m -> m.like(0, 1, k), 0);
            Bench.told(17, "k " + k, Bench::full, m -> m.over(0, 1, k), 1);
        }
        Bench.told(19, "k 15: all turns are as like", Bench::full, m -> m.chance(0, 1, 15, 1), 1);
    }

    /** "LEAF i of the first lies on LEAF i - k of the second, if there is one: so many are OVER." */
    private static void slidesOfFullPits() {
        LeavesOfMud mud = Bench.rows(Bench.times(16, "l1"), Bench.times(16, "l1"), Bench.times(3, "l1"));
        for (int k = -15; k <= 15; k++) {
            Bench.due(17, "16 on 16, k " + k, mud.over(0, 1, k), 16 - Math.abs(k));
            Bench.due(17, "16 on 3, k " + k, mud.over(0, 2, k), k < 0 ? Math.max(0, 3 + k) : Math.min(3, 16 - k));
            Bench.due(17, "3 on 16, k " + k, mud.over(2, 0, k), k > 0 ? Math.max(0, 3 - k) : Math.min(3, 16 + k));
        }
        LeavesOfMud way = Bench.rows("l1 l2 l3 a9.1", "a9.1");
        Bench.due(16, "LEAF 3 on LEAF 0: k is 3", way.like(0, 1, 3), 5);
        Bench.due(16, "turned round: k is -3", way.like(1, 0, -3), 5);
    }

    /** "-100004: none lies on another"; "STATE: none lies on another"; OVER is 0 then. */
    private static void slidesWhereNoneLiesOnAnother() {
        Bench.Made made = () -> Bench.rows("l1 l2 l3", "l1 l2");
        for (int k : new int[] {-15, -2, 3, 15}) {
            Bench.told(16, "k " + k, made, m -> m.like(0, 1, k), WIDE_NONE);
            Bench.told(17, "k " + k, made, m -> m.over(0, 1, k), 0);
            Bench.refused(19, "k " + k, made, m -> m.chance(0, 1, k, 0), STATE);
            Bench.refused(19, "k " + k, made, m -> m.chance(0, 1, k, 1), STATE);
        }
        for (int k : new int[] {-1, 2}) {
            Bench.told(16, "k " + k, made, m -> m.like(0, 1, k), 0);
            Bench.told(17, "k " + k, made, m -> m.over(0, 1, k), 1);
            Bench.told(19, "k " + k, made, m -> m.chance(0, 1, k, 0), 1);
        }
    }

    private static void slidesOfEmptyPits() {
        Bench.Made made = () -> Bench.rows("", "l1 l2", "");
        int[][] pairs = {{0, 1}, {1, 0}, {0, 2}, {0, 0}};
        for (int[] pair : pairs) {
            for (int k : new int[] {-15, 0, 15}) {
                String told = pair[0] + " on " + pair[1] + ", k " + k;
                Bench.told(16, told, made, m -> m.like(pair[0], pair[1], k), WIDE_NONE);
                Bench.told(17, told, made, m -> m.over(pair[0], pair[1], k), 0);
                Bench.refused(19, told, made, m -> m.chance(pair[0], pair[1], k, 0), STATE);
            }
            Bench.told(18, pair[0] + " on " + pair[1], made, m -> m.slide(pair[0], pair[1], 1), WIDE_NONE);
        }
    }

    /** "pits (they may be the same)". */
    private static void slidesOfThePitItself() {
        Bench.Made made = () -> Bench.rows("l1 l2 l1 a5.1");
        Bench.told(16, "itself", made, m -> m.like(0, 0, 0), 3 + 5);
        Bench.told(16, "itself, one further", made, m -> m.like(0, 0, 1), -1 - 1);
        Bench.told(17, "itself", made, m -> m.over(0, 0, 0), 4);
        Bench.told(18, "itself", made, m -> m.slide(0, 0, 1), 0);
        Bench.told(19, "itself", made, m -> m.chance(0, 0, 0, 1), 4);
    }

    /** "STEP of a LEAF: .. (the first: 0)": what would be ahead of it in another PIT is not looked at. */
    private static void likeByStepsOfTheFirst() {
        LeavesOfMud mud = Bench.rows(Bench.times(16, "l99"), "l50 l60", "l1 l2");
        Bench.due(16, "the first on the first", mud.like(1, 2, 0), 1);
        Bench.due(16, "the first on the second", mud.like(1, 2, -1), 0);
        Bench.due(16, "the second on the first", mud.like(1, 2, 1), 0);
        LeavesOfMud all = Bench.rows("l5 l6 l6 l5", "l5 l6 l6 l5", "l5 l4 l6 l7");
        Bench.due(16, "thicker, like, thinner", all.like(0, 1, 0), 1 + 0 + 1);
        Bench.due(16, "thinner, thicker, thicker", all.like(0, 2, 0), -1 + 0 - 1);
    }

    /** "5 more for two ASHES of one n, 5 less for two of unlike n": of two ASHES alone. */
    private static void likeOfAshes() {
        Bench.due(16, "one n", Bench.rows("a5.0", "a9.0").like(0, 1, 0), 5);
        Bench.due(16, "one n", Bench.rows("a5.9", "a9.9").like(0, 1, 0), 5);
        Bench.due(16, "unlike n", Bench.rows("a5.8", "a9.9").like(0, 1, 0), -5);
        Bench.due(16, "WARM is no ASH", Bench.rows("a5.8", "w9.8").like(0, 1, 0), 0);
        Bench.due(16, "WARM is no ASH", Bench.rows("w5.8", "a9.9").like(0, 1, 0), 0);
        Bench.due(16, "with STEPS", Bench.rows("l1 a5.8", "l1 a9.8").like(0, 1, 0), 6);
        Bench.due(16, "with STEPS", Bench.rows("l9 a5.8", "l1 a9.9").like(0, 1, 0), -6);
    }

    private static void likeMostAndLeast() {
        String up = Bench.times(8, "a1.1 a9.1");
        LeavesOfMud mud = Bench.rows(up, up, Bench.times(8, "a9.2 a1.2"));
        Bench.due(16, "the most: 16 ASHES and 15 STEPS", mud.like(0, 1, 0), 95);
        Bench.due(16, "the least", mud.like(0, 2, 0), -95);
    }

    /** "BEST SLIDE with m OVER at least (1 to 16)"; "-100002: m"; "-100004: none has so many OVER". */
    private static void slideWithMOverIs1To16() {
        for (int m : new int[] {0, -1, 17, MIN, MAX}) {
            Bench.refused(18, "m " + m, Bench::full, mud -> mud.slide(0, 1, m), WIDE_OUTSIDE);
        }
        LeavesOfMud mud = Bench.rows(Bench.times(16, "l1"), Bench.times(16, "l1"), Bench.times(5, "l1"));
        for (int m = 1; m <= 16; m++) {
            Bench.due(18, "m " + m + " of 16", mud.slide(0, 1, m), 0);
            Bench.due(18, "m " + m + " of 5", mud.slide(0, 2, m), m <= 5 ? 0 : WIDE_NONE);
            Bench.due(18, "m " + m + " of 5", mud.slide(2, 0, m), m <= 5 ? 0 : WIDE_NONE);
        }
        LeavesOfMud far = farAshes();
        Bench.due(18, "1 OVER: as far as can be", far.slide(0, 1, 1), -15);
        Bench.due(18, "2 OVER: -15 has too few", far.slide(0, 1, 2), -1);
        Bench.due(18, "15 OVER", far.slide(0, 1, 15), -1);
        Bench.due(18, "16 OVER: 0 alone, whatever its LIKE", far.slide(0, 1, 16), 0);
        LeavesOfMud ends = Bench.rows(Bench.times(15, "l5") + " a5.1", "a5.1 " + Bench.times(15, "l5"));
        Bench.due(18, "as far as can be above 0", ends.slide(0, 1, 1), 15);
        Bench.due(18, "as far as can be below 0", ends.slide(1, 0, 1), -15);
    }

    /** ASHES at both ends: 5 for slides of -15 and 15, 10 less for 0, 0 for all others. */
    private static LeavesOfMud farAshes() {
        String between = Bench.times(14, "l5");
        return Bench.rows("a5.1 " + between + " a5.2", "a5.2 " + between + " a5.1");
    }

    /** "of greatest LIKE, of like ones of least size, then the one below 0". */
    private static void slideOfLikeOnes() {
        Bench.due(18, "-15 and 15", farAshes().slide(0, 1, 1), -15);
        Bench.due(18, "all like", Bench.rows("l5 l5 l5", "l5 l5 l5").slide(0, 1, 1), 0);
        Bench.due(18, "-1 and 1", Bench.rows("a5.1 l5 a5.1", "l5 a5.1 l5").slide(0, 1, 1), -1);
        Bench.due(18, "1 and -2: the lesser size", Bench.rows("a5.2 a5.1 l5", "a5.1 l5 a5.2").slide(0, 1, 1), 1);
        Bench.due(18, "2 and -1: the lesser size", Bench.rows("a5.1 l5 a5.2", "a5.2 a5.1 l5").slide(0, 1, 1), -1);
        Bench.due(18, "all below 0: the greatest", Bench.rows("a5.1", "a5.2").slide(0, 1, 1), 0);
    }

    /** A BEST SLIDE of -1 is one. */
    private static void slideMinusOneIsNotNone() {
        LeavesOfMud mud = Bench.rows("a5.1", "l5 a5.1");
        Bench.due(18, "-1", mud.slide(0, 1, 1), -1);
        Bench.due(18, "none", mud.slide(0, 1, 2), WIDE_NONE);
    }

    /** "-100001: UNKNOWN; -100002: m; -100004", in that order; of like(), too. */
    private static void slideRefusalsInOrder() {
        Bench.refused(18, "pit and m", Bench::ordinary, m -> m.slide(4, 3, 0), WIDE_UNKNOWN);
        Bench.refused(18, "pit and m", Bench::ordinary, m -> m.slide(3, -1, 17), WIDE_UNKNOWN);
        Bench.refused(18, "m and none", Bench::ordinary, m -> m.slide(3, 3, 0), WIDE_OUTSIDE);
        Bench.refused(16, "pit and k", Bench::ordinary, m -> m.like(4, 3, 16), WIDE_UNKNOWN);
        Bench.refused(16, "pit and k", Bench::ordinary, m -> m.like(3, -1, -16), WIDE_UNKNOWN);
        Bench.refused(16, "k and none", Bench::ordinary, m -> m.like(3, 3, 16), WIDE_OUTSIDE);
        Bench.refused(17, "pit and k", Bench::ordinary, m -> m.over(4, 3, 16), UNKNOWN);
        Bench.refused(17, "pit and k", Bench::ordinary, m -> m.over(3, -1, -16), UNKNOWN);
    }

    /** "part 0 above, 1 below"; "OUTSIDE: k, part". */
    private static void chanceParts() {
        for (int part : new int[] {-1, 2, MIN, MAX}) {
            Bench.refused(19, "part " + part, Bench::ordinary, m -> m.chance(0, 1, 0, part), OUTSIDE);
        }
        Bench.Made made = () -> Bench.rows("l1 l2 l3", "l5 l6 l5");
        // LIKE is 0; turned by 1: 6, 5, 5, -1; by 2: 5, 5, 6, 1
        Bench.told(19, "part 0", made, m -> m.chance(0, 1, 0, 0), 2);
        Bench.told(19, "part 1", made, m -> m.chance(0, 1, 0, 1), 3);
    }

    /** "UNKNOWN: pits; OUTSIDE: k, part; STATE: none lies on another", in that order. */
    private static void chanceRefusalsInOrder() {
        for (int a : new int[] {-1, 0, 3, 4}) {
            for (int b : new int[] {-1, 0, 3, 4}) {
                LeavesOfMud mud = Bench.ordinary();
                for (int k : new int[] {-16, -15, 15, 16}) {
                    for (int part : new int[] {-1, 0, 1, 2}) {
                        boolean unknown = a < 0 || a > 3 || b < 0 || b > 3;
                        boolean outside = k < -15 || k > 15 || part < 0 || part > 1;
                        int want = unknown ? UNKNOWN : outside ? OUTSIDE : STATE;
                        Bench.due(19, "chance " + a + ", " + b + ", " + k + ", " + part, mud.chance(a, b, k, part), want);
                    }
                }
            }
        }
    }

    /** "r from 0 to their number less 1": of one LEAF there is one turn. */
    private static void chanceOfOneLeaf() {
        Bench.Made made = () -> Bench.rows("l1 l2", "a5.1");
        Bench.told(19, "above", made, m -> m.chance(0, 1, 0, 0), 1);
        Bench.told(19, "below", made, m -> m.chance(0, 1, 0, 1), 1);
        Bench.told(19, "above, k 1", made, m -> m.chance(0, 1, 1, 0), 1);
    }

    /** "STEPS as they are then": the one that was first has one behind that which was last. */
    private static void chanceStepsAreAsTheyAreThen() {
        Bench.Made made = () -> Bench.rows("l1 l2", "l4 l5 l2");
        // 4, 5: 1; 5, 2: -1; 2, 4: 1
        Bench.told(19, "2 of 3", made, m -> m.chance(0, 1, 0, 0), 2);
        Bench.told(19, "2 of 3", made, m -> m.chance(0, 1, 0, 1), 3);
        Bench.Made first = () -> Bench.rows("l1 l2 l3", "l9 l1 l5");
        // the first one then has none: 9, 1, 5: -1 and 1; 1, 5, 9: 1 and 1; 5, 9, 1: 1 and -1
        Bench.told(19, "3 of 3", first, m -> m.chance(0, 1, 0, 0), 1);
        Bench.told(19, "3 of 3", first, m -> m.chance(0, 1, 0, 1), 1);
    }

    /** "of all turns of the second PIT's LEAVES": of that one alone, those that lie on none, too. */
    private static void chanceOfAllTurns() {
        Bench.Made made = () -> Bench.rows("a5.1", "a5.1 l5 l5 l5 l5 l5 l5");
        Bench.told(19, "1 of 7", made, m -> m.chance(0, 1, 0, 0), 1);
        Bench.told(19, "1 of 7", made, m -> m.chance(0, 1, 0, 1), 7);
        Bench.told(19, "turned round: 1 of 1", made, m -> m.chance(1, 0, 0, 1), 1);
        Bench.Made full = () -> Bench.rows("a5.1", "a5.1 " + Bench.times(15, "l5"));
        Bench.told(19, "1 of 16", full, m -> m.chance(0, 1, 0, 1), 16);
        Bench.told(19, "at the far end all but that: 16 of 16", full, m -> m.chance(0, 1, -15, 1), 1);
    }

    /** "in lowest terms". */
    private static void chanceInLowestTerms() {
        int[][] told = {{1, 16}, {1, 8}, {3, 16}, {1, 4}, {5, 16}, {3, 8}, {7, 16}, {1, 2}};
        for (int ashes = 1; ashes <= 8; ashes++) {
            LeavesOfMud mud = Bench.rows("a5.1", Bench.times(ashes, "a5.1") + " " + Bench.times(16 - ashes, "l5"));
            Bench.due(19, ashes + " of 16, above", mud.chance(0, 1, 0, 0), told[ashes - 1][0]);
            Bench.due(19, ashes + " of 16, below", mud.chance(0, 1, 0, 1), told[ashes - 1][1]);
        }
    }

    // ---- Promise 20

    /** "UNKNOWN: law, pits". There is no LAW that is told nothing: NONE names none. */
    private static void togetherUnknown() {
        for (int law : new int[] {NONE, -2, 2, 4, MIN, MAX}) {
            Bench.refused(20, "law " + law, Bench::ordinary, m -> m.together(law, 0, 1, 0), UNKNOWN);
        }
        for (int pit : NO_PITS) {
            Bench.refused(20, "first " + pit, Bench::ordinary, m -> m.together(0, pit, 0, 0), UNKNOWN);
            Bench.refused(20, "second " + pit, Bench::ordinary, m -> m.together(0, 0, pit, 0), UNKNOWN);
        }
        Bench.refused(20, "law 4 of four", Bench::full, m -> m.together(4, 0, 1, 0), UNKNOWN);
        Bench.told(20, "law 3 of four, pit 6 of seven", Bench::full, m -> m.together(3, 6, 6, 0), 0);
    }

    /** "LEAST (what = 0), WAYS (1), how many STEPS THE WAY has (2), 10 and i"; "OUTSIDE: what (10 to 41 else)". */
    private static void togetherWhat() {
        for (int what : new int[] {-1, 3, 4, 5, 6, 7, 8, 9, 42, 43, MIN, MAX}) {
            Bench.refused(20, "what " + what, Bench::ordinary, m -> m.together(0, 0, 1, what), OUTSIDE);
        }
        Bench.Made made = SlideEdgesTest::oneDoubled;
        int[] told = {3, 1, 2};
        for (int what = 0; what <= 2; what++) {
            int asked = what;
            Bench.told(20, "what " + what, made, m -> m.together(0, 0, 1, asked), told[what]);
        }
        for (int what = 10; what <= 41; what++) {
            int asked = what;
            int step = what == 10 ? 0 : what == 11 ? 3 : NONE;
            Bench.told(20, "what " + what, made, m -> m.together(0, 0, 1, asked), step);
        }
    }

    /** A LEAF on one, then one on two: for 3. */
    private static LeavesOfMud oneDoubled() {
        LeavesOfMud mud = Bench.rows("l10 l20", "l10 l5 l15", "l10 l60 l20", "");
        Bench.lawOf(mud, "l9");
        return mud;
    }

    private static void togetherRefusalsInOrder() {
        Bench.refused(20, "law and what", Bench::ordinary, m -> m.together(2, 0, 1, 3), UNKNOWN);
        Bench.refused(20, "first and what", Bench::ordinary, m -> m.together(0, 4, 1, 9), UNKNOWN);
        Bench.refused(20, "second and what", Bench::ordinary, m -> m.together(0, 0, -1, 42), UNKNOWN);
    }

    /** Both are at the top at once: nothing is paid, in one way, without STEPS. */
    private static void togetherBothEmpty() {
        int[] told = {0, 1, 0};
        for (int what = 0; what <= 2; what++) {
            int asked = what;
            Bench.told(20, "both empty, what " + what, Bench::ordinary, m -> m.together(0, 3, 3, asked), told[what]);
        }
        Bench.told(20, "no first STEP", Bench::ordinary, m -> m.together(0, 3, 3, 10), NONE);
        Bench.told(20, "no last STEP", Bench::ordinary, m -> m.together(0, 3, 3, 41), NONE);
    }

    private static void togetherOneEmpty() {
        LeavesOfMud mud = Bench.rows(Bench.times(16, "a9.1"), "");
        Bench.lawOf(mud, "l99");
        int[] told = {16 * 99, 1, 16};
        for (int what = 0; what <= 2; what++) {
            Bench.due(20, "the second is empty, what " + what, mud.together(0, 0, 1, what), told[what]);
            Bench.due(20, "the first is empty, what " + what, mud.together(0, 1, 0, what), told[what]);
        }
        Bench.due(20, "the 16th STEP: the first alone", mud.together(0, 0, 1, 25), 1);
        Bench.due(20, "the 16th STEP: the second alone", mud.together(0, 1, 0, 25), 2);
        Bench.due(20, "no 17th", mud.together(0, 0, 1, 26), NONE);
    }

    /** One LEAF each: no STEP has two of one, whatever it costs. */
    private static void togetherOfOneLeafEach() {
        LeavesOfMud mud = Bench.rows("l10", "l19", "l9 l10");
        Bench.lawOf(mud, "l99,d0");
        Bench.due(20, "one on one", mud.together(0, 0, 1, 0), 9);
        Bench.due(20, "one on two", mud.together(0, 0, 2, 0), 9);
        Bench.due(20, "one on two, by STEP 3", mud.together(0, 0, 2, 10), 3);
        Bench.due(20, "two on one, by STEP 4", mud.together(0, 2, 1, 10), 4);
        Bench.due(20, "two on one", mud.together(0, 2, 1, 0), 0);
        LeavesOfMud odd = Bench.rows("l10 l10", "l20 l20", "l10 l10 l10");
        Bench.lawOf(odd, "l20,d0");
        Bench.due(20, "two at the top of the first, one left of the second", odd.together(0, 0, 1, 0), 20);
        Bench.due(20, "in three ways: 4 and 2, 2 and 4, 0 and 0", odd.together(0, 0, 1, 1), 3);
    }

    /** "WAYS: how many have that (999999999 at most)": all are for nothing by STEPS 0, 1, 2. */
    private static void togetherWaysAtMost() {
        BigInteger[][] ways = new BigInteger[17][17];
        BigInteger most = BigInteger.valueOf(999999999);
        boolean below = false;
        boolean above = false;
        for (int i = 0; i <= 16; i++) {
            for (int j = 0; j <= 16; j++) {
                ways[i][j] = i == 0 || j == 0 ? BigInteger.ONE
                        : ways[i - 1][j].add(ways[i][j - 1]).add(ways[i - 1][j - 1]);
                LeavesOfMud mud = Bench.rows(Bench.times(i, "l9"), Bench.times(j, "l9"));
                Bench.lawOf(mud, "l0,u0,d99");
                Bench.due(20, i + " and " + j, mud.together(0, 0, 1, 1), ways[i][j].min(most).intValue());
                below |= ways[i][j].compareTo(BigInteger.valueOf(500000000)) > 0 && ways[i][j].compareTo(most) < 0;
                above |= ways[i][j].bitLength() > 31;
            }
        }
        Bench.due(20, "some are near the most, some far above", below && above ? 1 : 0, 1);
    }

    /** "10 to 41": 16 LEAVES and 16 alone are 32 STEPS. */
    private static void togetherStepsAtMost() {
        LeavesOfMud mud = Bench.rows(Bench.times(16, "l1"), Bench.times(16, "l99"));
        Bench.lawOf(mud, "l0");
        Bench.due(20, "32 STEPS", mud.together(0, 0, 1, 2), 32);
        for (int i = 0; i < 32; i++) {
            Bench.due(20, "STEP " + i, mud.together(0, 0, 1, 10 + i), i < 16 ? 1 : 2);
        }
        LeavesOfMud least = Bench.rows(Bench.times(16, "l1"), Bench.times(16, "l1"));
        Bench.lawOf(least, "l9");
        Bench.due(20, "16 STEPS", least.together(0, 0, 1, 2), 16);
        Bench.due(20, "the last", least.together(0, 0, 1, 25), 0);
        Bench.due(20, "none behind it", least.together(0, 0, 1, 26), NONE);
    }

    /** "THE WAY: the one whose STEPS are told by the least numbers, from the bottom on". */
    private static void togetherTheWayIsTheLeast() {
        LeavesOfMud mud = Bench.rows("l5 l5", "l5", "l5 l5 l5");
        Bench.lawOf(mud, "l5,d0");
        // two of the first on one: 5; one on one and one alone: 5, either first
        Bench.due(20, "three ways", mud.together(0, 0, 1, 1), 3);
        Bench.due(20, "0 is ahead of 1 and 4", mud.together(0, 0, 1, 10), 0);
        Bench.due(20, "then 1", mud.together(0, 0, 1, 11), 1);
        Bench.due(20, "0 is ahead of 2 and 3", mud.together(0, 1, 0, 10), 0);
        Bench.due(20, "then 2", mud.together(0, 1, 0, 11), 2);
        LeavesOfMud free = Bench.rows(Bench.times(2, "l5"), Bench.times(4, "l5"));
        Bench.lawOf(free, "l0,d0,u0");
        int[] steps = {0, 0, 2, 2, NONE};
        for (int i = 0; i < steps.length; i++) {
            Bench.due(20, "all for nothing, STEP " + i, free.together(0, 0, 1, 10 + i), steps[i]);
        }
        LeavesOfMud later = Bench.rows("l9 l5", "l5 l1");
        Bench.lawOf(later, "l4,u9,d99");
        int[] alone = {1, 0, 2, NONE};
        for (int i = 0; i < alone.length; i++) {
            Bench.due(20, "a 0 that costs more is not taken, STEP " + i, later.together(0, 0, 1, 10 + i), alone[i]);
        }
    }

    private static void togetherMostPrice() {
        LeavesOfMud mud = Bench.rows(Bench.times(16, "l1"), Bench.times(16, "l99"));
        Bench.lawOf(mud, "l99,d99,u99,a99");
        Bench.due(20, "all 32 are LOST", mud.together(0, 0, 1, 0), 32 * 99);
    }

    /** "ASHES more, if just one is an ASH or they are two of unlike n"; "ASHES for each ASH among the three". */
    private static void togetherAshesAreOfOneKind() {
        int[][] told = {{0, 7, 7, 7}, {7, 0, 0, 7}};
        String[] first = {"a5.1", "w5.1"};
        String[] second = {"a5.1", "w5.1", "l5.2", "a5.2"};
        for (int i = 0; i < 2; i++) {
            for (int j = 0; j < 4; j++) {
                LeavesOfMud mud = Bench.rows(first[i], second[j]);
                Bench.lawOf(mud, "l99,a7");
                Bench.due(20, first[i] + " on " + second[j], mud.together(0, 0, 1, 0), told[i][j]);
            }
        }
        for (int bits = 0; bits < 8; bits++) {
            String one = (bits & 1) == 0 ? "w9.1" : "a9.1";
            String two = ((bits & 2) == 0 ? "l4.1 " : "a4.1 ") + ((bits & 4) == 0 ? "n5.1" : "a5.1");
            LeavesOfMud mud = Bench.rows(one, two);
            Bench.lawOf(mud, "l99,d0,a7");
            int price = 7 * Integer.bitCount(bits);
            Bench.due(20, one + " on " + two, mud.together(0, 0, 1, 0), price);
            Bench.due(20, two + " on " + one, mud.together(0, 1, 0, 0), price);
        }
    }

    private static void togetherOfThePitItself() {
        Bench.told(20, "for nothing", Bench::ordinary, m -> m.together(0, 0, 0, 0), 0);
        Bench.told(20, "each on itself", Bench::ordinary, m -> m.together(0, 0, 0, 2), 8);
        Bench.told(21, "each on itself", Bench::ordinary, m -> m.lies(0, 0, 0, 7), 7);
    }

    // ---- Promise 21

    /** "UNKNOWN: law, pits, leaf": a LEAF of the first. */
    private static void liesUnknown() {
        for (int law : new int[] {NONE, -2, 2, 4, MIN, MAX}) {
            Bench.refused(21, "law " + law, Bench::ordinary, m -> m.lies(law, 0, 1, 0), UNKNOWN);
        }
        for (int pit : NO_PITS) {
            Bench.refused(21, "first " + pit, Bench::ordinary, m -> m.lies(0, pit, 0, 0), UNKNOWN);
            Bench.refused(21, "second " + pit, Bench::ordinary, m -> m.lies(0, 0, pit, 0), UNKNOWN);
        }
        for (int leaf : new int[] {-1, 8, 16, MIN, MAX}) {
            Bench.refused(21, "leaf " + leaf, Bench::ordinary, m -> m.lies(0, 0, 1, leaf), UNKNOWN);
        }
        Bench.refused(21, "leaf 2 of two, three of the second", SlideEdgesTest::oneDoubled, m -> m.lies(0, 0, 1, 2), UNKNOWN);
        Bench.told(21, "leaf 2 of three, two of the second", SlideEdgesTest::oneDoubled, m -> m.lies(0, 1, 0, 2), 1);
        Bench.refused(21, "an empty first", SlideEdgesTest::oneDoubled, m -> m.lies(0, 3, 0, 0), UNKNOWN);
    }

    /** "(the lesser one of two)". */
    private static void liesOnTheLesserOfTwo() {
        Bench.told(21, "one on two", SlideEdgesTest::oneDoubled, m -> m.lies(0, 0, 1, 1), 1);
        Bench.told(21, "two on one, the first", SlideEdgesTest::oneDoubled, m -> m.lies(0, 1, 0, 1), 1);
        Bench.told(21, "two on one, the second", SlideEdgesTest::oneDoubled, m -> m.lies(0, 1, 0, 2), 1);
        LeavesOfMud full = Bench.rows(Bench.times(8, "l20"), Bench.times(16, "l10"));
        Bench.lawOf(full, "l99,d0");
        Bench.due(21, "the last of 8 on the 15th", full.lies(0, 0, 1, 7), 14);
        Bench.due(21, "the last of 16 on the 8th", full.lies(0, 1, 0, 15), 7);
    }

    /** "NONE: alone". */
    private static void liesAlone() {
        Bench.told(21, "alone", SlideEdgesTest::oneDoubled, m -> m.lies(0, 2, 0, 1), NONE);
        Bench.told(21, "behind one alone", SlideEdgesTest::oneDoubled, m -> m.lies(0, 2, 0, 2), 1);
        Bench.told(21, "the second is empty", SlideEdgesTest::oneDoubled, m -> m.lies(0, 0, 3, 0), NONE);
        Bench.told(21, "the second is empty", SlideEdgesTest::oneDoubled, m -> m.lies(0, 0, 3, 1), NONE);
    }

    // ---- Promise 22

    /** "UNKNOWN: law, pits, leaf". */
    private static void sureUnknown() {
        for (int law : new int[] {NONE, -2, 2, 4, MIN, MAX}) {
            Bench.refused(22, "law " + law, Bench::ordinary, m -> m.sure(law, 0, 1, 0), UNKNOWN);
        }
        for (int pit : NO_PITS) {
            Bench.refused(22, "first " + pit, Bench::ordinary, m -> m.sure(0, pit, 0, 0), UNKNOWN);
            Bench.refused(22, "second " + pit, Bench::ordinary, m -> m.sure(0, 0, pit, 0), UNKNOWN);
        }
        for (int leaf : new int[] {-1, 8, 16, MIN, MAX}) {
            Bench.refused(22, "leaf " + leaf, Bench::ordinary, m -> m.sure(0, 0, 1, leaf), UNKNOWN);
        }
        Bench.refused(22, "leaf 2 of two, three of the second", SlideEdgesTest::oneDoubled, m -> m.sure(0, 0, 1, 2), UNKNOWN);
        Bench.refused(22, "an empty first", SlideEdgesTest::oneDoubled, m -> m.sure(0, 3, 0, 0), UNKNOWN);
    }

    /** "NONE: it does not lie on one alone by a STEP 0". */
    private static void sureOnlyOfAStep0() {
        Bench.taken(22, "one on one", SlideEdgesTest::oneDoubled, m -> m.sure(0, 0, 1, 0), 10);
        Bench.taken(22, "one on two", SlideEdgesTest::oneDoubled, m -> m.sure(0, 0, 1, 1), NONE);
        Bench.taken(22, "two on one, the first", SlideEdgesTest::oneDoubled, m -> m.sure(0, 1, 0, 1), NONE);
        Bench.taken(22, "two on one, the second", SlideEdgesTest::oneDoubled, m -> m.sure(0, 1, 0, 2), NONE);
        Bench.taken(22, "alone", SlideEdgesTest::oneDoubled, m -> m.sure(0, 2, 0, 1), NONE);
        Bench.taken(22, "the second is empty", SlideEdgesTest::oneDoubled, m -> m.sure(0, 0, 3, 0), NONE);
    }

    /** "the LEAST of all ways without that one STEP, less LEAST": 0, if another way is as cheap. */
    private static void sureIsZeroIfAsCheap() {
        LeavesOfMud mud = Bench.rows("l5", "l5 l5");
        Bench.lawOf(mud, "l4,d99");
        Bench.due(22, "on the other one for as much", mud.sure(0, 0, 1, 0), 0);
        Bench.lawOf(mud, "l0,d0,u0");
        Bench.due(22, "all for nothing", mud.sure(1, 0, 1, 0), 0);
    }

    private static void sureMost() {
        LeavesOfMud mud = Bench.rows("l5", "l5");
        Bench.lawOf(mud, "l99");
        Bench.due(22, "both LOST", mud.sure(0, 0, 1, 0), 198);
        String row = Bench.times(16, "l5");
        LeavesOfMud full = Bench.rows(row, row);
        Bench.lawOf(full, "l99,d0");
        // 5 on 10 and 10 on 5
        Bench.due(22, "the first of 16", full.sure(0, 0, 1, 0), 10);
        Bench.due(22, "the last of 16", full.sure(0, 0, 1, 15), 10);
    }

    /** "STATE: it was done 100 times": NONE is an answer, too. */
    private static void sureIsDone100Times() {
        LeavesOfMud mud = oneDoubled();
        for (int time = 1; time <= 100; time++) {
            boolean one = time % 3 == 0;
            Bench.due(22, "time " + time, mud.sure(0, 0, 1, one ? 0 : 1), one ? 10 : NONE);
            Bench.due(39, "done " + time, mud.count(8), time);
        }
        Bench.due(22, "time 101", mud.sure(0, 0, 1, 0), STATE);
        Bench.due(22, "time 101, of one on two", mud.sure(0, 0, 1, 1), STATE);
        Bench.due(22, "UNKNOWN is ahead of STATE", mud.sure(0, 0, 1, 2), UNKNOWN);
        Bench.due(22, "UNKNOWN is ahead of STATE", mud.sure(1, 0, 1, 0), UNKNOWN);
        Bench.due(39, "still 100", mud.count(8), 100);
        Bench.due(21, "lies goes on", mud.lies(0, 0, 1, 0), 0);
        Bench.due(20, "together goes on", mud.together(0, 0, 1, 0), 3);
        Bench.refused(22, "STATE changes nothing", Bench::full, m -> m.sure(0, 0, 1, 0), STATE);
        Bench.refused(22, "UNKNOWN, and STATE", Bench::full, m -> m.sure(4, 0, 1, 0), UNKNOWN);
        Bench.refused(22, "UNKNOWN, and STATE", Bench::full, m -> m.sure(0, 0, 1, 16), UNKNOWN);
    }

    /** What is refused is not done, and an IMAGE does not take back how often it was. */
    private static void sureRefusedIsNotDone() {
        LeavesOfMud mud = oneDoubled();
        mud.image();
        for (int i = 0; i < 120; i++) {
            mud.sure(0, 0, 1, 2);
        }
        Bench.due(39, "none was done", mud.count(8), 0);
        for (int i = 0; i < 99; i++) {
            mud.sure(0, 0, 1, 0);
        }
        mud.restore();
        Bench.due(39, "99 were done", mud.count(8), 99);
        Bench.due(22, "the 100th", mud.sure(0, 0, 1, 0), 10);
        Bench.due(22, "the 101st", mud.sure(0, 0, 1, 0), STATE);
    }
}
