import java.math.BigInteger;

/** Sentences of the document that name an edge of PITS and LEAVES: promises 1 to 7. */
public final class PitEdgesTest {
    private static final int NONE = Bench.NONE;
    private static final int UNKNOWN = Bench.UNKNOWN;
    private static final int OUTSIDE = Bench.OUTSIDE;
    private static final int FULL = Bench.FULL;
    private static final int MAX = Bench.MAX;
    private static final int MIN = Bench.MIN;

    public static void main(String[] args) {
        newObjectHasNothing();
        newObjectAnswersEveryCall();
        objectIsUsedFor512Calls();
        objectsAreApart();
        pitsAreSevenAtMost();
        pitMilesAre0To240();
        pitOutsideIsAheadOfFull();
        pitIsWithoutLeaves();
        leafUnknownPit();
        leafKindIs0To6();
        leafThicknessIs1To99();
        leafNumberIs0To9();
        leavesAreSixteenAtMost();
        leavesAreInOrderFromTheBottom();
        leafRefusalsInOrder();
        asUnknown();
        asOutside();
        asKindsThatAreOthersToo();
        asRefusalsInOrder();
        aboutUnknown();
        aboutOfALeafIs0To3();
        aboutOfAPitIs0To2();
        aboutAnEmptyPit();
        aboutStepOfTheFirst();
        aboutStepByOne();
        changeUnknown();
        changeOutside();
        changeOnAFullPit();
        changeLeavesTheOthers();
        layUnknown();
        laySeedIsZeroAtLeast();
        layYearsAre1To20();
        layPAndQAre0To99();
        layRefusalsInOrder();
        laySeedsAreRestsBy2ToThe31();
        layBelowPIsNoLeaf();
        layBelowPAndQIsTwoHalves();
        layWarmIsAbove34();
        layNotBeyondSixteen();
        layOnAFullPit();
        Bench.end();
    }

    // ---- Promise 1

    /** "No PITS; ASHES are looked at." */
    private static void newObjectHasNothing() {
        for (int what = 0; what <= 9; what++) {
            int asked = what;
            Bench.told(1, "no PITS, nothing counted " + what, Bench::empty, m -> m.count(asked), 0);
        }
        Bench.taken(1, "ASHES are looked at", Bench::empty, m -> m.ashes(true), 1);
        Bench.taken(1, "ASHES are looked at, and may be left", Bench::empty, m -> m.ashes(false), 1);
    }

    /** Each call on what is empty: the numbers that name nothing are refused, the rest tells of nothing. */
    private static void newObjectAnswersEveryCall() {
        Bench.Made none = Bench::empty;
        Bench.refused(3, "leaf without PITS", none, m -> m.leaf(0, 0, 1, 0), UNKNOWN);
        Bench.refused(4, "as without PITS", none, m -> m.as(0, 0, 0), UNKNOWN);
        Bench.refused(5, "about without PITS", none, m -> m.about(0, NONE, 0), UNKNOWN);
        Bench.refused(6, "change without PITS", none, m -> m.change(0, 0, 0, 1, 0), UNKNOWN);
        Bench.refused(7, "lay without PITS", none, m -> m.lay(0, 0, 1, 0, 0), UNKNOWN);
        Bench.refused(13, "at without PITS", none, m -> m.at(NONE, 0, 0), UNKNOWN);
        Bench.refused(14, "years without PITS", none, m -> m.years(NONE, 0), UNKNOWN);
        Bench.told(15, "lean without PITS", none, m -> m.lean(NONE, NONE), 0);
        Bench.refused(16, "like without PITS", none, m -> m.like(0, 0, 0), Bench.WIDE_UNKNOWN);
        Bench.refused(17, "over without PITS", none, m -> m.over(0, 0, 0), UNKNOWN);
        Bench.refused(18, "slide without PITS", none, m -> m.slide(0, 0, 1), Bench.WIDE_UNKNOWN);
        Bench.refused(19, "chance without PITS", none, m -> m.chance(0, 0, 0, 0), UNKNOWN);
        Bench.refused(20, "together without LAWS", none, m -> m.together(0, 0, 0, 0), UNKNOWN);
        Bench.refused(21, "lies without LAWS", none, m -> m.lies(0, 0, 0, 0), UNKNOWN);
        Bench.refused(22, "sure without LAWS", none, m -> m.sure(0, 0, 0, 0), UNKNOWN);
        Bench.refused(23, "join without PITS", none, m -> m.join(0, 1, 0, 0, 0), UNKNOWN);
        Bench.refused(24, "keep without JOINS", none, m -> m.keep(0, true), UNKNOWN);
        Bench.refused(25, "tie without PITS", none, m -> m.tie(0, 0, 0), UNKNOWN);
        Bench.refused(26, "untie without PITS", none, m -> m.untie(0), UNKNOWN);
        Bench.told(28, "closes without PITS", none, m -> m.closes(), 1);
        Bench.refused(29, "span without PITS", none, m -> m.span(0, 0, 0), Bench.WIDE_UNKNOWN);
        Bench.refused(30, "date without PITS", none, m -> m.date(0, 0, 0), Bench.WIDE_UNKNOWN);
        Bench.told(32, "castOut without JOINS", none, m -> m.castOut(), 0);
        Bench.refused(33, "hangs without PITS", none, m -> m.hangs(0, 0), UNKNOWN);
        Bench.taken(34, "dig without PITS", none, m -> m.dig(0), NONE);
        Bench.refused(35, "pace without PITS", none, m -> m.pace(0, 0, 0, 0), UNKNOWN);
        Bench.refused(36, "took without PITS", none, m -> m.took(0, 0, 0), UNKNOWN);
    }

    /** "An object is used for at most 512 calls after it has been made": the 512th is answered as all others. */
    private static void objectIsUsedFor512Calls() {
        LeavesOfMud mud = Bench.empty();
        for (int call = 1; call <= 500; call++) {
            Bench.due(2, "call " + call, mud.pit(call <= 7 ? call : 9), call <= 7 ? call - 1 : FULL);
        }
        for (int call = 501; call <= 510; call++) {
            Bench.due(3, "call " + call, mud.leaf(6, 0, 9, 0), call - 500);
        }
        Bench.due(39, "call 511", mud.count(1), 10);
        Bench.due(14, "call 512", mud.years(NONE, 6), 10);
    }

    /** What is done with one object is not seen in another one. */
    private static void objectsAreApart() {
        LeavesOfMud one = Bench.empty();
        LeavesOfMud other = Bench.full();
        Bench.due(1, "another object is full", other.count(0), 7);
        Bench.due(1, "this one is empty", one.count(0), 0);
        Bench.due(1, "as one made behind it", one.digest(), Bench.empty().digest());
    }

    // ---- Promise 2

    /** "PITS (7 at most, numbered)"; "FULL". */
    private static void pitsAreSevenAtMost() {
        LeavesOfMud mud = Bench.empty();
        for (int pit = 0; pit < 7; pit++) {
            Bench.due(2, "PIT " + pit, mud.pit(5), pit);
        }
        Bench.due(2, "the eighth", mud.pit(5), FULL);
        Bench.due(2, "still seven", mud.count(0), 7);
        Bench.refused(2, "FULL changes nothing", Bench::full, m -> m.pit(0), FULL);
    }

    /** "MILES (0 to 240)"; "OUTSIDE: miles". */
    private static void pitMilesAre0To240() {
        for (int miles : new int[] {-1, 241, MIN, MAX}) {
            Bench.refused(2, "miles " + miles, Bench::empty, m -> m.pit(miles), OUTSIDE);
            Bench.refused(2, "miles " + miles + " beside others", Bench::ordinary, m -> m.pit(miles), OUTSIDE);
        }
        for (int miles : new int[] {0, 1, 239, 240}) {
            LeavesOfMud mud = Bench.ordinary();
            Bench.due(2, "miles " + miles, mud.pit(miles), 4);
            Bench.due(2, "miles " + miles + " told", mud.about(4, NONE, 0), miles);
        }
    }

    /** "of several the first as told by each call": OUTSIDE, then FULL. */
    private static void pitOutsideIsAheadOfFull() {
        Bench.refused(2, "OUTSIDE, and FULL", Bench::full, m -> m.pit(-1), OUTSIDE);
        Bench.refused(2, "OUTSIDE, and FULL", Bench::full, m -> m.pit(241), OUTSIDE);
    }

    /** "A PIT without LEAVES". */
    private static void pitIsWithoutLeaves() {
        LeavesOfMud mud = Bench.ordinary();
        int pit = mud.pit(9);
        Bench.due(2, "no LEAVES", mud.about(pit, NONE, 1), 0);
        Bench.due(2, "no LEAF 0", mud.about(pit, 0, 0), UNKNOWN);
        Bench.due(2, "no TIE", mud.untie(pit), 0);
    }

    // ---- Promise 3

    /** "UNKNOWN: pit". */
    private static void leafUnknownPit() {
        for (int pit : new int[] {-1, 4, 7, MIN, MAX}) {
            Bench.refused(3, "pit " + pit, Bench::ordinary, m -> m.leaf(pit, 0, 1, 0), UNKNOWN);
        }
        Bench.refused(3, "pit 7 of seven", Bench::full, m -> m.leaf(7, 0, 1, 0), UNKNOWN);
        Bench.taken(3, "the first pit", Bench::ordinary, m -> m.leaf(0, 0, 1, 0), 9);
        Bench.taken(3, "the last pit, empty", Bench::ordinary, m -> m.leaf(3, 0, 1, 0), 1);
    }

    /** "KINDS: 0 LEAF .. 6 SLUMP"; "OUTSIDE: kind". */
    private static void leafKindIs0To6() {
        for (int kind : new int[] {-1, 7, MIN, MAX}) {
            Bench.refused(3, "kind " + kind, Bench::ordinary, m -> m.leaf(0, kind, 1, 0), OUTSIDE);
        }
        for (int kind = 0; kind <= 6; kind++) {
            LeavesOfMud mud = Bench.ordinary();
            Bench.due(3, "kind " + kind, mud.leaf(3, kind, 1, 0), 1);
            Bench.due(3, "kind " + kind + " told", mud.about(3, 0, 0), kind);
        }
    }

    /** "a THICKNESS (1 to 99)"; "OUTSIDE: thickness". */
    private static void leafThicknessIs1To99() {
        for (int thickness : new int[] {0, -1, 100, MIN, MAX}) {
            Bench.refused(3, "thickness " + thickness, Bench::ordinary, m -> m.leaf(0, 0, thickness, 0), OUTSIDE);
        }
        for (int thickness : new int[] {1, 2, 98, 99}) {
            LeavesOfMud mud = Bench.ordinary();
            Bench.due(3, "thickness " + thickness, mud.leaf(3, 0, thickness, 0), 1);
            Bench.due(3, "thickness " + thickness + " told", mud.about(3, 0, 1), thickness);
        }
    }

    /** "a number n (0 to 9)"; "OUTSIDE: n". */
    private static void leafNumberIs0To9() {
        for (int n : new int[] {-1, 10, MIN, MAX}) {
            Bench.refused(3, "n " + n, Bench::ordinary, m -> m.leaf(0, 0, 1, n), OUTSIDE);
        }
        for (int n = 0; n <= 9; n++) {
            LeavesOfMud mud = Bench.ordinary();
            Bench.due(3, "n " + n, mud.leaf(3, 0, 1, n), 1);
            Bench.due(3, "n " + n + " told", mud.about(3, 0, 2), n);
        }
    }

    /** "LEAVES (16 at most)"; "FULL". */
    private static void leavesAreSixteenAtMost() {
        for (int pit = 0; pit < 7; pit++) {
            LeavesOfMud mud = Bench.rows("", "", "", "", "", "", "");
            for (int i = 1; i <= 16; i++) {
                Bench.due(3, "LEAF " + i + " of PIT " + pit, mud.leaf(pit, 0, i, 0), i);
            }
            Bench.due(3, "the 17th of PIT " + pit, mud.leaf(pit, 0, 1, 0), FULL);
            Bench.due(3, "still 16", mud.about(pit, NONE, 1), 16);
            Bench.due(3, "the others have none", mud.count(1), 16);
            Bench.due(3, "the last one", mud.about(pit, 15, 1), 16);
        }
        Bench.refused(3, "FULL changes nothing", Bench::full, m -> m.leaf(0, 5, 9, 9), FULL);
        Bench.refused(3, "FULL changes nothing", Bench::full, m -> m.leaf(6, 0, 1, 0), FULL);
        LeavesOfMud all = Bench.full();
        Bench.due(39, "7 times 16 LEAVES", all.count(1), 112);
    }

    /** "LEAVES in order from the bottom, numbered from 0": a new one is on top. */
    private static void leavesAreInOrderFromTheBottom() {
        LeavesOfMud mud = Bench.ordinary();
        mud.leaf(2, Bench.FLOOD, 77, 7);
        Bench.due(3, "LEAF 0 is as it was", mud.about(2, 0, 1), 40);
        Bench.due(3, "LEAF 1 is as it was", mud.about(2, 1, 1), 20);
        Bench.due(3, "LEAF 2 is the new one", mud.about(2, 2, 1), 77);
    }

    /** "of several the first as told by each call": UNKNOWN, OUTSIDE, FULL. */
    private static void leafRefusalsInOrder() {
        int[] kinds = {-1, 0, 6, 7};
        int[] thicknesses = {0, 1, 99, 100};
        int[] numbers = {-1, 0, 9, 10};
        LeavesOfMud mud = Bench.full();
        for (int pit : new int[] {-1, 0, 6, 7}) {
            for (int kind : kinds) {
                for (int thickness : thicknesses) {
                    for (int n : numbers) {
                        boolean outside = kind < 0 || kind > 6 || thickness < 1 || thickness > 99 || n < 0 || n > 9;
                        int want = pit < 0 || pit > 6 ? UNKNOWN : outside ? OUTSIDE : FULL;
                        String told = "leaf " + pit + ", " + kind + ", " + thickness + ", " + n + " where all is full";
                        Bench.due(3, told, mud.leaf(pit, kind, thickness, n), want);
                    }
                }
            }
        }
    }

    // ---- Promise 4

    /** "UNKNOWN: pit, leaf". */
    private static void asUnknown() {
        for (int pit : new int[] {-1, 4, MIN, MAX}) {
            Bench.refused(4, "pit " + pit, Bench::ordinary, m -> m.as(pit, 0, 0), UNKNOWN);
        }
        for (int leaf : new int[] {-1, 8, 16, MIN, MAX}) {
            Bench.refused(4, "leaf " + leaf, Bench::ordinary, m -> m.as(0, leaf, 0), UNKNOWN);
        }
        Bench.told(4, "the last leaf", Bench::ordinary, m -> m.as(0, 7, 0), 7);
        Bench.refused(4, "leaf 0 of an empty PIT", Bench::ordinary, m -> m.as(3, 0, 0), UNKNOWN);
        Bench.told(4, "leaf 15 of a full PIT", Bench::full, m -> m.as(6, 15, 0), 15);
        Bench.refused(4, "leaf 16 of a full PIT", Bench::full, m -> m.as(0, 16, 0), UNKNOWN);
    }

    /** "OUTSIDE": a kind that is none. */
    private static void asOutside() {
        for (int kind : new int[] {-1, 7, MIN, MAX}) {
            Bench.refused(4, "kind " + kind, Bench::ordinary, m -> m.as(0, 0, kind), OUTSIDE);
        }
        Bench.told(4, "kind 6", Bench::ordinary, m -> m.as(1, 3, 6), 3);
    }

    /** "All are LEAVES; an ASH is WARM, too; a FLOOD is a SLUMP, too"; "NONE: it is none such". */
    private static void asKindsThatAreOthersToo() {
        LeavesOfMud mud = Bench.rows("l1 w1 n1 h1 f1 a1 s1");
        String[] are = {"0", "01", "02", "03", "046", "015", "06"};
        for (int leaf = 0; leaf < 7; leaf++) {
            for (int kind = 0; kind < 7; kind++) {
                boolean is = are[leaf].indexOf('0' + kind) >= 0;
                Bench.due(4, "kind " + leaf + " as " + kind, mud.as(0, leaf, kind), is ? leaf : NONE);
            }
        }
        mud.change(0, 0, Bench.ASH, 1, 0);
        Bench.due(4, "what it has become", mud.as(0, 0, 1), 0);
        Bench.due(4, "not what ASH is not", mud.as(0, 0, 6), NONE);
    }

    /** "of several the first as told": UNKNOWN, then OUTSIDE. */
    private static void asRefusalsInOrder() {
        Bench.refused(4, "pit and kind", Bench::ordinary, m -> m.as(4, 0, 7), UNKNOWN);
        Bench.refused(4, "leaf and kind", Bench::ordinary, m -> m.as(0, 8, -1), UNKNOWN);
    }

    // ---- Promise 5

    /** "UNKNOWN: pit, leaf". */
    private static void aboutUnknown() {
        for (int pit : new int[] {-1, 4, 7, MIN, MAX}) {
            Bench.refused(5, "pit " + pit, Bench::ordinary, m -> m.about(pit, 0, 0), UNKNOWN);
            Bench.refused(5, "pit " + pit + " itself", Bench::ordinary, m -> m.about(pit, NONE, 0), UNKNOWN);
            Bench.refused(5, "pit " + pit + ", and what", Bench::ordinary, m -> m.about(pit, NONE, 9), UNKNOWN);
        }
        for (int leaf : new int[] {-2, 8, 16, MIN, MAX}) {
            Bench.refused(5, "leaf " + leaf, Bench::ordinary, m -> m.about(0, leaf, 0), UNKNOWN);
            Bench.refused(5, "leaf " + leaf + ", and what", Bench::ordinary, m -> m.about(0, leaf, 4), UNKNOWN);
        }
    }

    /** "what = 0 KIND, 1 THICKNESS, 2 n, 3 STEP"; "OUTSIDE". */
    private static void aboutOfALeafIs0To3() {
        for (int what : new int[] {-1, 4, MIN, MAX}) {
            Bench.refused(5, "leaf, what " + what, Bench::ordinary, m -> m.about(0, 1, what), OUTSIDE);
        }
        int[] ash = {Bench.ASH, 9, 1, 0};
        for (int what = 0; what <= 3; what++) {
            int asked = what;
            Bench.told(5, "leaf 1, what " + what, Bench::ordinary, m -> m.about(0, 1, asked), ash[what]);
        }
    }

    /** "Of a PIT (leaf NONE): 0 MILES, 1 how many LEAVES, 2 YEARS by THE PLAIN HAND"; "OUTSIDE". */
    private static void aboutOfAPitIs0To2() {
        for (int what : new int[] {-1, 3, 4, MIN, MAX}) {
            Bench.refused(5, "pit, what " + what, Bench::ordinary, m -> m.about(1, NONE, what), OUTSIDE);
        }
        int[] pit = {30, 7, 6};
        for (int what = 0; what <= 2; what++) {
            int asked = what;
            Bench.told(5, "pit 1, what " + what, Bench::ordinary, m -> m.about(1, NONE, asked), pit[what]);
        }
    }

    /** What an empty PIT answers, and a full one. */
    private static void aboutAnEmptyPit() {
        Bench.told(5, "MILES of an empty PIT", Bench::ordinary, m -> m.about(3, NONE, 0), 90);
        Bench.told(5, "LEAVES of an empty PIT", Bench::ordinary, m -> m.about(3, NONE, 1), 0);
        Bench.told(5, "YEARS of an empty PIT", Bench::ordinary, m -> m.about(3, NONE, 2), 0);
        Bench.refused(5, "LEAF 0 of an empty PIT", Bench::ordinary, m -> m.about(3, 0, 0), UNKNOWN);
        Bench.told(5, "LEAVES of a full PIT", Bench::full, m -> m.about(6, NONE, 1), 16);
        Bench.refused(5, "LEAF 16 of a full PIT", Bench::full, m -> m.about(0, 16, 0), UNKNOWN);
    }

    /** "(the first: 0)", told as 1: the top of the PIT that stands ahead of it is not looked at. */
    private static void aboutStepOfTheFirst() {
        LeavesOfMud mud = Bench.rows(Bench.times(16, "l99"), "l1 l99", "l99 l1");
        for (int pit = 0; pit < 3; pit++) {
            Bench.due(5, "STEP of LEAF 0 of PIT " + pit, mud.about(pit, 0, 3), 1);
        }
    }

    /** "1 if it is thicker than that ahead of it, -1 if thinner, else 0": told as 2, 0, 1. */
    private static void aboutStepByOne() {
        LeavesOfMud mud = Bench.rows("l50 l51 l51 l50 l1 l99 l1");
        int[] told = {1, 2, 1, 0, 0, 2, 0};
        for (int leaf = 0; leaf < told.length; leaf++) {
            Bench.due(5, "STEP of LEAF " + leaf, mud.about(0, leaf, 3), told[leaf]);
        }
    }

    // ---- Promise 6

    /** "UNKNOWN: pit, leaf", ahead of OUTSIDE. */
    private static void changeUnknown() {
        for (int pit : new int[] {-1, 4, 7, MIN, MAX}) {
            Bench.refused(6, "pit " + pit, Bench::ordinary, m -> m.change(pit, 0, 0, 1, 0), UNKNOWN);
            Bench.refused(6, "pit " + pit + ", and kind", Bench::ordinary, m -> m.change(pit, 0, 7, 1, 0), UNKNOWN);
        }
        for (int leaf : new int[] {-1, 8, 16, MIN, MAX}) {
            Bench.refused(6, "leaf " + leaf, Bench::ordinary, m -> m.change(0, leaf, 0, 1, 0), UNKNOWN);
            Bench.refused(6, "leaf " + leaf + ", and n", Bench::ordinary, m -> m.change(0, leaf, 0, 1, 10), UNKNOWN);
        }
        Bench.refused(6, "an empty PIT", Bench::ordinary, m -> m.change(3, 0, 0, 1, 0), UNKNOWN);
    }

    /** "OUTSIDE": kind, thickness, n as leaf() takes them. */
    private static void changeOutside() {
        for (int kind : new int[] {-1, 7, MIN, MAX}) {
            Bench.refused(6, "kind " + kind, Bench::ordinary, m -> m.change(0, 0, kind, 1, 0), OUTSIDE);
        }
        for (int thickness : new int[] {0, -1, 100, MIN, MAX}) {
            Bench.refused(6, "thickness " + thickness, Bench::ordinary, m -> m.change(0, 0, 0, thickness, 0), OUTSIDE);
        }
        for (int n : new int[] {-1, 10, MIN, MAX}) {
            Bench.refused(6, "n " + n, Bench::ordinary, m -> m.change(0, 0, 0, 1, n), OUTSIDE);
        }
        Bench.taken(6, "the least of all", Bench::ordinary, m -> m.change(0, 0, 0, 1, 0), 12);
        Bench.taken(6, "the most of all", Bench::ordinary, m -> m.change(0, 7, 6, 99, 9), 33);
    }

    /** A full PIT's LEAVES may still become others. */
    private static void changeOnAFullPit() {
        LeavesOfMud mud = Bench.rows(Bench.times(16, "l9"));
        Bench.due(6, "the first of 16", mud.change(0, 0, 1, 10, 1), 9);
        Bench.due(6, "the last of 16", mud.change(0, 15, 2, 11, 2), 9);
        Bench.due(6, "the last of 16, again", mud.change(0, 15, 2, 12, 2), 11);
        Bench.due(6, "still 16", mud.about(0, NONE, 1), 16);
        Bench.refused(6, "no LEAF 16", Bench::full, m -> m.change(0, 16, 2, 11, 2), UNKNOWN);
    }

    /** "LEAF i becomes another one": that one alone. */
    private static void changeLeavesTheOthers() {
        LeavesOfMud mud = Bench.rows("l1 l2 l3", Bench.times(16, "l4"), "l5");
        mud.change(1, 0, 6, 44, 4);
        Bench.due(6, "the PIT ahead", mud.about(0, 2, 1), 3);
        Bench.due(6, "the LEAF behind", mud.about(1, 1, 1), 4);
        mud.change(1, 15, 6, 45, 4);
        Bench.due(6, "the PIT behind", mud.about(2, 0, 1), 5);
        Bench.due(6, "the kind behind", mud.about(2, 0, 0), 0);
    }

    // ---- Promise 7

    /** "UNKNOWN: pit". */
    private static void layUnknown() {
        for (int pit : new int[] {-1, 4, 7, MIN, MAX}) {
            Bench.refused(7, "pit " + pit, Bench::ordinary, m -> m.lay(pit, 1, 1, 0, 0), UNKNOWN);
        }
    }

    /** "OUTSIDE: seed (0 at least)". */
    private static void laySeedIsZeroAtLeast() {
        for (int seed : new int[] {-1, -2, MIN}) {
            Bench.refused(7, "seed " + seed, Bench::ordinary, m -> m.lay(3, seed, 1, 0, 0), OUTSIDE);
        }
        for (int seed : new int[] {0, 1, MAX - 1, MAX}) {
            Bench.taken(7, "seed " + seed, Bench::ordinary, m -> m.lay(3, seed, 1, 0, 0), 1);
        }
    }

    /** "years (1 to 20)". */
    private static void layYearsAre1To20() {
        for (int years : new int[] {0, -1, 21, MIN, MAX}) {
            Bench.refused(7, "years " + years, Bench::ordinary, m -> m.lay(3, 1, years, 0, 0), OUTSIDE);
        }
        for (int years = 1; years <= 20; years++) {
            int asked = years;
            Bench.taken(7, "years " + years, Bench::ordinary, m -> m.lay(3, 1, asked, 0, 0), Math.min(16, years));
        }
    }

    /** "p, q (0 to 99 each)". */
    private static void layPAndQAre0To99() {
        for (int wrong : new int[] {-1, 100, MIN, MAX}) {
            Bench.refused(7, "p " + wrong, Bench::ordinary, m -> m.lay(3, 1, 1, wrong, 0), OUTSIDE);
            Bench.refused(7, "q " + wrong, Bench::ordinary, m -> m.lay(3, 1, 1, 0, wrong), OUTSIDE);
        }
        // of seed 1 x is 13
        Bench.taken(7, "p 0, q 0", Bench::ordinary, m -> m.lay(3, 1, 1, 0, 0), 1);
        Bench.taken(7, "p 99", Bench::ordinary, m -> m.lay(3, 1, 1, 99, 0), 0);
        Bench.taken(7, "q 99", Bench::ordinary, m -> m.lay(3, 1, 1, 0, 99), 2);
        Bench.taken(7, "p 99, q 99", Bench::ordinary, m -> m.lay(3, 1, 1, 99, 99), 0);
        // x of 99 is not below 99, but below 99 and 1
        int seed = seedOf(2, 100, 99);
        Bench.taken(7, "x 99, p 99, q 0", Bench::ordinary, m -> m.lay(3, seed, 1, 99, 0), 1);
        Bench.taken(7, "x 99, p 99, q 1", Bench::ordinary, m -> m.lay(3, seed, 1, 99, 1), 2);
        Bench.taken(7, "x 99, p 99, q 99", Bench::ordinary, m -> m.lay(3, seed, 1, 99, 99), 2);
    }

    /** "of several the first as told": UNKNOWN, then OUTSIDE; a full PIT is not refused. */
    private static void layRefusalsInOrder() {
        for (int pit : new int[] {-1, 0, 6, 7}) {
            LeavesOfMud mud = Bench.full();
            for (int seed : new int[] {-1, 0}) {
                for (int years : new int[] {0, 1, 20, 21}) {
                    for (int p : new int[] {-1, 0, 99, 100}) {
                        for (int q : new int[] {-1, 0, 99, 100}) {
                            boolean outside = seed < 0 || years < 1 || years > 20 || p < 0 || p > 99 || q < 0 || q > 99;
                            int want = pit < 0 || pit > 6 ? UNKNOWN : outside ? OUTSIDE : 16;
                            String told = "lay " + pit + ", " + seed + ", " + years + ", " + p + ", " + q;
                            Bench.due(7, told, mud.lay(pit, seed, years, p, q), want);
                        }
                    }
                }
            }
        }
    }

    private static final BigInteger REST = BigInteger.TWO.pow(31);

    private static BigInteger next(BigInteger seed) {
        return seed.multiply(BigInteger.valueOf(1103515245)).add(BigInteger.valueOf(12345)).mod(REST);
    }

    private static int draw(BigInteger seed, int d) {
        return seed.divide(BigInteger.valueOf(65536)).mod(BigInteger.valueOf(d)).intValue();
    }

    /** A SEED whose DRAW (0 is w, 1 is e, 2 is x, each by d) is this one. */
    private static int seedOf(int which, int d, int drawn) {
        for (int seed = 0; seed < 100000; seed++) {
            BigInteger now = next(BigInteger.valueOf(seed));
            for (int i = 0; i < which; i++) {
                now = next(now);
            }
            if (draw(now, d) == drawn) {
                return seed;
            }
        }
        throw new IllegalStateException("no seed");
    }

    /** A SEED by which x is below p in each of so many years. */
    private static int seedWithoutLeaves(int years, int p) {
        for (int start = 0; start < 1000; start++) {
            BigInteger seed = BigInteger.valueOf(start);
            int none = 0;
            for (int year = 0; year < years; year++) {
                seed = next(next(next(seed)));
                none += draw(seed, 100) < p ? 1 : 0;
            }
            if (none == years) {
                return start;
            }
        }
        throw new IllegalStateException("no seed");
    }

    /** "1103515245 times it and 12345, its rest by 2 to the 31"; "by 65536 (rounded down), its rest by d". */
    private static void laySeedsAreRestsBy2ToThe31() {
        for (int start : new int[] {0, 1, 2, 65535, 65536, 1 << 30, MAX - 1, MAX}) {
            LeavesOfMud mud = Bench.rows("");
            mud.lay(0, start, 16, 0, 0);
            BigInteger seed = BigInteger.valueOf(start);
            for (int leaf = 0; leaf < 16; leaf++) {
                seed = next(seed);
                int w = draw(seed, 40);
                seed = next(seed);
                int e = draw(seed, 6);
                seed = next(seed);
                Bench.due(7, "LEAF " + leaf + " by seed " + start, mud.about(0, leaf, 1), 5 + w + e);
                Bench.due(7, "KIND " + leaf + " by seed " + start, mud.about(0, leaf, 0), w > 34 ? 1 : 0);
                Bench.due(7, "n of " + leaf, mud.about(0, leaf, 2), 0);
            }
        }
    }

    /** "if x is below p: no LEAF": its SEEDS are drawn all the same. */
    private static void layBelowPIsNoLeaf() {
        // draws (w, e, x) of seed 1: (38, 4, 13) (35, 1, 27) (10, 3, 12)
        Bench.taken(7, "x 13, p 14", () -> Bench.rows(""), m -> m.lay(0, 1, 1, 14, 0), 0);
        Bench.taken(7, "x 13, p 13", () -> Bench.rows(""), m -> m.lay(0, 1, 1, 13, 0), 1);
        LeavesOfMud mud = Bench.rows("");
        Bench.due(7, "the first year has none, the second one", mud.lay(0, 1, 2, 14, 0), 1);
        Bench.due(7, "35 and 1 and 5", mud.about(0, 0, 1), 41);
        Bench.due(7, "none in any of 20 years", Bench.rows("").lay(0, seedWithoutLeaves(20, 99), 20, 99, 0), 0);
    }

    /** "else if it is below p and q: two HALF ones, of 3 and w and of 2 and e". */
    private static void layBelowPAndQIsTwoHalves() {
        LeavesOfMud mud = Bench.rows("");
        Bench.due(7, "x 13 is below 13 and 1", mud.lay(0, 1, 1, 13, 1), 2);
        Bench.due(7, "3 and 38", mud.about(0, 0, 1), 41);
        Bench.due(7, "2 and 4", mud.about(0, 1, 1), 6);
        Bench.due(7, "HALF", mud.about(0, 0, 0), Bench.HALF);
        Bench.due(7, "HALF", mud.about(0, 1, 0), Bench.HALF);
        Bench.due(7, "n 0", mud.about(0, 0, 2), 0);
        Bench.due(7, "n 0", mud.about(0, 1, 2), 0);
        Bench.due(7, "x 13 is not below 12 and 1", mud.lay(0, 1, 1, 12, 1), 3);
        Bench.due(7, "5, 38 and 4", mud.about(0, 2, 1), 47);
        int least = seedOf(0, 40, 0);
        LeavesOfMud thin = Bench.rows("");
        thin.lay(0, least, 1, 0, 99);
        Bench.due(7, "w of 0", thin.about(0, 0, 1), 3);
        int most = seedOf(0, 40, 39);
        LeavesOfMud thick = Bench.rows("");
        thick.lay(0, most, 1, 0, 99);
        Bench.due(7, "w of 39", thick.about(0, 0, 1), 42);
        LeavesOfMud ends = Bench.rows("", "");
        ends.lay(0, seedOf(1, 6, 0), 1, 0, 99);
        ends.lay(1, seedOf(1, 6, 5), 1, 0, 99);
        Bench.due(7, "e of 0", ends.about(0, 1, 1), 2);
        Bench.due(7, "e of 5", ends.about(1, 1, 1), 7);
    }

    /** "(WARM, if w is above 34)". */
    private static void layWarmIsAbove34() {
        for (int w : new int[] {0, 33, 34, 35, 39}) {
            LeavesOfMud mud = Bench.rows("");
            mud.lay(0, seedOf(0, 40, w), 1, 0, 0);
            Bench.due(7, "w of " + w, mud.about(0, 0, 0), w > 34 ? Bench.WARM : Bench.LEAF);
        }
    }

    /** "LEAVES beyond 16 are not laid": of two HALF ones the second, too. */
    private static void layNotBeyondSixteen() {
        LeavesOfMud mud = Bench.rows(Bench.times(15, "l9"), "l77");
        Bench.due(7, "one of two HALF ones", mud.lay(0, 1, 1, 0, 99), 16);
        Bench.due(7, "the first of them", mud.about(0, 15, 1), 41);
        Bench.due(7, "the PIT behind is as it was", mud.about(1, 0, 1), 77);
        Bench.due(7, "the PIT behind has one", mud.about(1, NONE, 1), 1);
        LeavesOfMud room = Bench.rows(Bench.times(14, "l9"));
        Bench.due(7, "both of two", room.lay(0, 1, 1, 0, 99), 16);
        Bench.due(7, "the second of them", room.about(0, 15, 1), 6);
        LeavesOfMud many = Bench.rows(Bench.times(3, "l9"));
        Bench.due(7, "20 years on 3 LEAVES", many.lay(0, 1, 20, 0, 0), 16);
        Bench.due(7, "what was there stays", many.about(0, 2, 1), 9);
        Bench.due(7, "the first year lies on it", many.about(0, 3, 1), 47);
    }

    /** A full PIT: nothing is laid, and 16 is told. */
    private static void layOnAFullPit() {
        Bench.told(7, "on 16 LEAVES", Bench::full, m -> m.lay(0, 1, 20, 0, 50), 16);
        Bench.told(7, "no LEAF in any year", Bench::full, m -> m.lay(6, 1, 1, 99, 0), 16);
    }
}
