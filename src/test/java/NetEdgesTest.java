/** Sentences of the document that name an edge of the net: promises 23 to 34. */
public final class NetEdgesTest {
    private static final int NONE = Bench.NONE;
    private static final int UNKNOWN = Bench.UNKNOWN;
    private static final int OUTSIDE = Bench.OUTSIDE;
    private static final int STATE = Bench.STATE;
    private static final int FULL = Bench.FULL;
    private static final int WIDE_UNKNOWN = Bench.WIDE_UNKNOWN;
    private static final int WIDE_OUTSIDE = Bench.WIDE_OUTSIDE;
    private static final int WIDE_STATE = Bench.WIDE_STATE;
    private static final int WIDE_NONE = Bench.WIDE_NONE;
    private static final int MAX = Bench.MAX;
    private static final int MIN = Bench.MIN;
    private static final int[] NO_PITS = {-1, 4, 7, MIN, MAX};

    public static void main(String[] args) {
        joinUnknown();
        joinLowAndHigh();
        joinDoubt();
        joinsAreTwelveAtMost();
        joinRefusalsInOrder();
        joinIsKeptAtFirst();
        keepUnknown();
        keepTwice();
        tieUnknown();
        tieLowAndHigh();
        tieIsTheLastOneTold();
        tiesOfAllPits();
        untieUnknown();
        untieWithoutOne();
        ashesTwice();
        ashesAreTheFirstOfAnN();
        ashesOfEachNumber();
        closesByOneYear();
        closesRoundThroughAll();
        closesOfWhatIsKept();
        spanUnknown();
        spanEnds();
        spanOfOne();
        spanThatDoesNotClose();
        spanFloating();
        spanMost();
        spanRefusalsInOrder();
        dateUnknown();
        dateEnds();
        dateOnNoTie();
        dateMost();
        dateRefusalsInOrder();
        calendarsWhat();
        calendarsEmptyAndFull();
        calendarsByTies();
        castOutOfNothing();
        castOutNotEvenWithoutAll();
        castOutOfThrownOut();
        castOutFewestMostDoubtLeastBits();
        castOutOfAllTwelve();
        hangsUnknown();
        hangsState();
        hangsOfOne();
        hangsWiderByOne();
        digWhat();
        digWidthIs1To40();
        digStateIsNotDone();
        digIsDone8Times();
        digNoPair();
        digOfLikeOnes();
        digWorstAtTheEnds();
        digOfSevenPits();
        digByTies();
        Bench.end();
    }

    private static LeavesOfMud pits(int many) {
        LeavesOfMud mud = new LeavesOfMud();
        for (int i = 0; i < many; i++) {
            mud.pit(i);
        }
        return mud;
    }

    // ---- Promise 23

    /** "UNKNOWN: a, b, or they are the same". */
    private static void joinUnknown() {
        for (int pit : NO_PITS) {
            Bench.refused(23, "a " + pit, Bench::ordinary, m -> m.join(pit, 0, 0, 0, 0), UNKNOWN);
            Bench.refused(23, "b " + pit, Bench::ordinary, m -> m.join(0, pit, 0, 0, 0), UNKNOWN);
            Bench.refused(23, "both " + pit, Bench::ordinary, m -> m.join(pit, pit, 0, 0, 0), UNKNOWN);
        }
        for (int pit = 0; pit < 4; pit++) {
            int same = pit;
            Bench.refused(23, "the same " + pit, Bench::ordinary, m -> m.join(same, same, 0, 0, 0), UNKNOWN);
        }
        Bench.taken(23, "an empty PIT", Bench::ordinary, m -> m.join(3, 0, 0, 0, 0), 2);
    }

    /** "from LOW to HIGH (-999 to 999)"; "OUTSIDE: low, high (not below low)". */
    private static void joinLowAndHigh() {
        int[][] taken = {{-999, -999}, {-999, 999}, {999, 999}, {0, 0}, {-1, 0}, {998, 999}, {-999, -998}};
        for (int[] one : taken) {
            LeavesOfMud mud = pits(2);
            Bench.due(23, one[0] + " to " + one[1], mud.join(0, 1, one[0], one[1], 0), 0);
            Bench.due(29, one[0] + " to " + one[1] + ", least", mud.span(0, 1, 0), one[0]);
            Bench.due(29, one[0] + " to " + one[1] + ", greatest", mud.span(0, 1, 1), one[1]);
        }
        int[][] outside = {{-1000, 0}, {-1000, -1000}, {0, 1000}, {1000, 1000}, {1, 0}, {-998, -999}, {999, 998},
            {MIN, 0}, {0, MAX}, {MIN, MAX}, {MAX, MIN}, {MIN, MIN}, {MAX, MAX}};
        for (int[] one : outside) {
            String told = one[0] + " to " + one[1];
            Bench.refused(23, told, Bench::ordinary, m -> m.join(0, 3, one[0], one[1], 0), OUTSIDE);
        }
    }

    /** "a DOUBT (0 to 99)". */
    private static void joinDoubt() {
        for (int doubt : new int[] {-1, 100, MIN, MAX}) {
            Bench.refused(23, "doubt " + doubt, Bench::ordinary, m -> m.join(0, 3, 0, 0, doubt), OUTSIDE);
        }
        for (int doubt : new int[] {0, 1, 98, 99}) {
            Bench.taken(23, "doubt " + doubt, Bench::ordinary, m -> m.join(0, 3, 0, 0, doubt), 2);
        }
    }

    /** "JOINS (12 at most, numbered)"; "FULL": one that is thrown out is there still. */
    private static void joinsAreTwelveAtMost() {
        LeavesOfMud mud = pits(2);
        for (int join = 0; join < 12; join++) {
            Bench.due(23, "JOIN " + join, mud.join(join % 2, 1 - join % 2, -5, 5, 0), join);
        }
        Bench.due(23, "the 13th", mud.join(0, 1, 0, 0, 0), FULL);
        mud.keep(11, false);
        Bench.due(23, "the 13th, one being thrown out", mud.join(0, 1, 0, 0, 0), FULL);
        Bench.due(39, "still 12", mud.count(4), 12);
        Bench.due(39, "11 are kept", mud.count(5), 11);
        Bench.refused(23, "FULL changes nothing", Bench::full, m -> m.join(0, 1, 0, 0, 0), FULL);
    }

    /** "of several the first as told": UNKNOWN, OUTSIDE, FULL. */
    private static void joinRefusalsInOrder() {
        for (int a : new int[] {-1, 0, 6, 7}) {
            for (int b : new int[] {-1, 0, 6, 7}) {
                LeavesOfMud mud = Bench.full();
                for (int low : new int[] {-1000, -999, 999, 1000}) {
                    for (int high : new int[] {-1000, -999, 999, 1000}) {
                        for (int doubt : new int[] {-1, 0, 99, 100}) {
                            boolean unknown = a < 0 || a > 6 || b < 0 || b > 6 || a == b;
                            boolean outside = Math.abs(low) > 999 || Math.abs(high) > 999 || high < low
                                    || doubt < 0 || doubt > 99;
                            int want = unknown ? UNKNOWN : outside ? OUTSIDE : FULL;
                            String told = "join " + a + ", " + b + ", " + low + ", " + high + ", " + doubt;
                            Bench.due(23, told, mud.join(a, b, low, high, doubt), want);
                        }
                    }
                }
            }
        }
    }

    /** "kept (at first)": one made behind a restore, too. */
    private static void joinIsKeptAtFirst() {
        LeavesOfMud mud = pits(2);
        mud.image();
        mud.join(0, 1, 3, 3, 0);
        mud.keep(0, false);
        mud.restore();
        Bench.due(23, "JOIN 0 anew", mud.join(0, 1, 4, 4, 0), 0);
        Bench.due(39, "it is kept", mud.count(5), 1);
        Bench.due(24, "it was kept", mud.keep(0, true), 1);
    }

    // ---- Promise 24

    /** "UNKNOWN". */
    private static void keepUnknown() {
        for (int join : new int[] {-1, 2, 12, 31, 32, MIN, MAX}) {
            Bench.refused(24, "join " + join, Bench::ordinary, m -> m.keep(join, true), UNKNOWN);
            Bench.refused(24, "join " + join, Bench::ordinary, m -> m.keep(join, false), UNKNOWN);
        }
        Bench.refused(24, "join 12 of twelve", Bench::full, m -> m.keep(12, false), UNKNOWN);
        Bench.taken(24, "join 11 of twelve", Bench::full, m -> m.keep(11, false), 1);
    }

    /** "1 if it was kept, else 0", to what it is already, too. */
    private static void keepTwice() {
        Bench.told(24, "kept, and kept", Bench::ordinary, m -> m.keep(0, true), 1);
        Bench.told(24, "thrown out, and thrown out", Bench::ordinary, m -> m.keep(1, false), 0);
        LeavesOfMud mud = Bench.full();
        for (int join = 0; join < 12; join++) {
            Bench.due(24, "JOIN " + join + " was kept", mud.keep(join, false), 1);
            Bench.due(39, "kept then", mud.count(5), 11 - join);
        }
        for (int join = 0; join < 12; join++) {
            Bench.due(24, "JOIN " + join + " was not", mud.keep(join, true), 0);
            Bench.due(39, "kept then", mud.count(5), join + 1);
        }
    }

    // ---- Promise 25

    /** "UNKNOWN: pit", ahead of OUTSIDE. */
    private static void tieUnknown() {
        for (int pit : NO_PITS) {
            Bench.refused(25, "pit " + pit, Bench::ordinary, m -> m.tie(pit, 0, 0), UNKNOWN);
            Bench.refused(25, "pit " + pit + ", and low", Bench::ordinary, m -> m.tie(pit, 1, 0), UNKNOWN);
            Bench.refused(25, "pit " + pit + ", and high", Bench::ordinary, m -> m.tie(pit, 0, 10000), UNKNOWN);
        }
        Bench.refused(25, "pit 7 of seven", Bench::full, m -> m.tie(7, 0, 0), UNKNOWN);
    }

    /** "OUTSIDE: low, high (-9999 to 9999; not below low)". */
    private static void tieLowAndHigh() {
        int[][] taken = {{-9999, -9999}, {-9999, 9999}, {9999, 9999}, {0, 0}, {-1, 0}, {9998, 9999}, {-9999, -9998}};
        for (int[] one : taken) {
            LeavesOfMud mud = Bench.rows("l1");
            Bench.due(25, one[0] + " to " + one[1], mud.tie(0, one[0], one[1]), 0);
            Bench.due(30, one[0] + " to " + one[1] + ", least", mud.date(0, 0, 0), one[0]);
            Bench.due(30, one[0] + " to " + one[1] + ", greatest", mud.date(0, 0, 1), one[1]);
        }
        int[][] outside = {{-10000, 0}, {-10000, -10000}, {0, 10000}, {10000, 10000}, {1, 0}, {-9998, -9999},
            {9999, 9998}, {MIN, 0}, {0, MAX}, {MIN, MAX}, {MAX, MIN}, {MIN, MIN}, {MAX, MAX}};
        for (int[] one : outside) {
            String told = one[0] + " to " + one[1];
            Bench.refused(25, told, Bench::ordinary, m -> m.tie(0, one[0], one[1]), OUTSIDE);
            Bench.refused(25, told + " where one is", Bench::ordinary, m -> m.tie(1, one[0], one[1]), OUTSIDE);
        }
    }

    /** "(one TIE of each PIT; the last one told)"; "1 if the PIT had one, else 0". */
    private static void tieIsTheLastOneTold() {
        LeavesOfMud mud = Bench.rows("l1");
        Bench.due(25, "the first", mud.tie(0, 5, 6), 0);
        Bench.due(25, "the second", mud.tie(0, 50, 60), 1);
        Bench.due(39, "one TIE", mud.count(6), 1);
        Bench.due(28, "the first is gone", mud.closes(), 1);
        Bench.due(30, "least", mud.date(0, 0, 0), 50);
        Bench.due(30, "greatest", mud.date(0, 0, 1), 60);
        Bench.due(25, "wider than that", mud.tie(0, -9, 99), 1);
        Bench.due(30, "least", mud.date(0, 0, 0), -9);
        Bench.due(25, "refused", mud.tie(0, 9, 8), OUTSIDE);
        Bench.due(30, "as it was", mud.date(0, 0, 1), 99);
    }

    private static void tiesOfAllPits() {
        LeavesOfMud mud = pits(7);
        for (int pit = 0; pit < 7; pit++) {
            Bench.due(25, "PIT " + pit, mud.tie(pit, pit, pit), 0);
            Bench.due(39, "TIES", mud.count(6), pit + 1);
        }
        Bench.due(31, "all hang together", mud.calendars(1), 127);
        Bench.due(29, "by their TIES", mud.span(6, 0, 0), -6);
        for (int pit = 0; pit < 7; pit++) {
            Bench.due(26, "PIT " + pit, mud.untie(pit), 1);
            Bench.due(39, "TIES", mud.count(6), 6 - pit);
        }
    }

    // ---- Promise 26

    /** "UNKNOWN". */
    private static void untieUnknown() {
        for (int pit : NO_PITS) {
            Bench.refused(26, "pit " + pit, Bench::ordinary, m -> m.untie(pit), UNKNOWN);
        }
        Bench.refused(26, "pit 7 of seven", Bench::full, m -> m.untie(7), UNKNOWN);
        Bench.refused(26, "pit 31", Bench::full, m -> m.untie(31), UNKNOWN);
        Bench.refused(26, "pit 32", Bench::full, m -> m.untie(32), UNKNOWN);
    }

    /** "1 if it had one, else 0". */
    private static void untieWithoutOne() {
        Bench.told(26, "none", Bench::ordinary, m -> m.untie(0), 0);
        Bench.told(26, "none of an empty PIT", Bench::ordinary, m -> m.untie(3), 0);
        LeavesOfMud mud = Bench.ordinary();
        Bench.due(26, "one", mud.untie(1), 1);
        Bench.due(26, "gone", mud.untie(1), 0);
        Bench.due(25, "it has none then", mud.tie(1, 0, 0), 0);
    }

    // ---- Promise 27

    /** "1 if they were, else 0", to what it is already, too. */
    private static void ashesTwice() {
        Bench.told(27, "looked at, and looked at", Bench::ordinary, m -> m.ashes(true), 1);
        LeavesOfMud mud = Bench.ordinary();
        Bench.due(27, "not from now on", mud.ashes(false), 1);
        Bench.due(27, "not, and not", mud.ashes(false), 0);
        Bench.due(29, "no bound", mud.span(0, 1, 0), WIDE_NONE);
        Bench.due(27, "from now on", mud.ashes(true), 0);
        Bench.due(29, "one day", mud.span(0, 1, 0), 0);
    }

    /** "where the first ASH of an n in two PITS stands": the next ones of that n are not looked at. */
    private static void ashesAreTheFirstOfAnN() {
        LeavesOfMud mud = Bench.rows("a1.4 l1 l1 a1.4", "l1 a1.4 a1.4");
        Bench.due(29, "AT 0 less AT 1", mud.span(0, 1, 0), -1);
        Bench.due(28, "the second ones stand elsewhere", mud.closes(), 1);
        LeavesOfMud one = Bench.rows("a1.4 a1.4 l1 l1 a1.5", "l1 l1 l1");
        Bench.due(29, "one PIT's ASHES bind none", one.span(0, 1, 0), WIDE_NONE);
        LeavesOfMud halves = Bench.rows("h1 a1.4", "h1 h1 a1.4", "h1 h1 h1 a1.4");
        Bench.due(29, "a half is rounded down", halves.span(0, 1, 0), -1);
        Bench.due(29, "three halves are rounded down", halves.span(1, 2, 1), 0);
    }

    /** "of one n": 0 to 9 each; a WARM leaf of that n is none. */
    private static void ashesOfEachNumber() {
        for (int n = 0; n <= 9; n++) {
            Bench.due(31, "n " + n, Bench.rows("a1." + n, "l1 a1." + n).calendars(0), 1);
            Bench.due(29, "n " + n, Bench.rows("a1." + n, "l1 a1." + n).span(0, 1, 1), -1);
            Bench.due(31, "another n", Bench.rows("a1." + n, "l1 a1." + (n + 1) % 10).calendars(0), 2);
            Bench.due(31, "no ASH", Bench.rows("a1." + n, "l1 w1." + n).calendars(0), 2);
        }
        LeavesOfMud last = Bench.rows(Bench.times(15, "f1.9") + " a1.3", "a1.3");
        Bench.due(29, "the last LEAF of 16", last.span(0, 1, 0), 135);
        LeavesOfMud seven = Bench.rows("a1.9 a1.0", "l1", "l1", "l1", "l1", "l1 a1.0", "a1.9 a1.0");
        Bench.due(28, "the first and the last of seven", seven.closes(), 1);
        Bench.due(29, "the first and the last of seven", seven.span(0, 6, 0), 0);
        Bench.due(31, "three of seven", seven.calendars(1), 97);
        Bench.due(32, "no JOINS", seven.castOut(), 0);
        LeavesOfMud beside = Bench.rows(Bench.times(16, "l1"), "a1.9", "a1.9");
        Bench.due(31, "an ASH at the bottom of the PIT behind a full one", beside.calendars(1), 1);
    }

    // ---- Promise 28

    /** "IT CLOSES, if there are years for all BOTTOMS by all that is kept": what touches closes. */
    private static void closesByOneYear() {
        Bench.told(28, "PITS without bonds", () -> pits(7), m -> m.closes(), 1);
        LeavesOfMud joins = pits(2);
        joins.join(0, 1, 0, 5, 0);
        joins.join(0, 1, 5, 9, 0);
        Bench.due(28, "two JOINS that touch", joins.closes(), 1);
        joins.join(1, 0, -4, -4, 0);
        Bench.due(28, "one that does not, turned round", joins.closes(), 0);
        joins.keep(2, false);
        joins.join(1, 0, -5, -5, 0);
        Bench.due(28, "one that does", joins.closes(), 1);
        LeavesOfMud ties = pits(2);
        ties.tie(0, 0, 0);
        ties.tie(1, 10, 10);
        ties.join(0, 1, -999, 9, 0);
        Bench.due(28, "TIES a year too far apart", ties.closes(), 0);
        ties.tie(1, 9, 10);
        Bench.due(28, "TIES that touch", ties.closes(), 1);
        LeavesOfMud ashes = Bench.rows("a1.1 l1 a1.2", "a1.1 h1 a1.2", "a1.1 h1 h1 a1.2");
        Bench.due(28, "ASHES a year apart in one", ashes.closes(), 0);
        ashes.change(1, 1, Bench.LEAF, 1, 0);
        Bench.due(28, "ASHES as far in all", ashes.closes(), 1);
    }

    /** Round through all seven PITS, by one year. */
    private static void closesRoundThroughAll() {
        LeavesOfMud mud = pits(7);
        for (int pit = 0; pit < 6; pit++) {
            mud.join(pit, pit + 1, 999, 999, 0);
        }
        mud.tie(0, -9999, -9999);
        mud.tie(6, -9999 + 5994, 9999);
        Bench.due(28, "six times 999", mud.closes(), 1);
        mud.tie(6, -9999 + 5995, 9999);
        Bench.due(28, "a year more", mud.closes(), 0);
        mud.tie(6, -9999, -9999 + 5993);
        Bench.due(28, "a year less", mud.closes(), 0);
        mud.untie(0);
        Bench.due(28, "one TIE alone", mud.closes(), 1);
    }

    /** "by all that is kept": a JOIN thrown out, ASHES not looked at are no bonds. */
    private static void closesOfWhatIsKept() {
        LeavesOfMud mud = Bench.unclosed();
        Bench.due(28, "a JOIN that can't be", mud.closes(), 0);
        mud.keep(2, false);
        Bench.due(28, "thrown out", mud.closes(), 1);
        mud.keep(2, true);
        mud.ashes(false);
        Bench.due(28, "ASHES not looked at", mud.closes(), 1);
        Bench.due(29, "by the JOIN alone", mud.span(0, 1, 0), 50);
    }

    // ---- Promise 29

    /** "-100001: UNKNOWN: a, b". */
    private static void spanUnknown() {
        for (int pit : NO_PITS) {
            Bench.refused(29, "a " + pit, Bench::ordinary, m -> m.span(pit, 0, 0), WIDE_UNKNOWN);
            Bench.refused(29, "b " + pit, Bench::ordinary, m -> m.span(0, pit, 1), WIDE_UNKNOWN);
            Bench.refused(29, "both " + pit, Bench::ordinary, m -> m.span(pit, pit, 0), WIDE_UNKNOWN);
        }
        Bench.refused(29, "pit 7 of seven", Bench::full, m -> m.span(0, 7, 0), WIDE_UNKNOWN);
    }

    /** "end 0 the least, 1 the greatest"; "-100002: end". */
    private static void spanEnds() {
        for (int end : new int[] {-1, 2, MIN, MAX}) {
            Bench.refused(29, "end " + end, Bench::ordinary, m -> m.span(0, 1, end), WIDE_OUTSIDE);
            Bench.refused(29, "end " + end + " of one", Bench::ordinary, m -> m.span(0, 0, end), WIDE_OUTSIDE);
            Bench.refused(29, "end " + end + ", floating", Bench::ordinary, m -> m.span(0, 3, end), WIDE_OUTSIDE);
        }
        Bench.told(29, "end 0", Bench::ordinary, m -> m.span(1, 2, 0), -3);
        Bench.told(29, "end 1", Bench::ordinary, m -> m.span(1, 2, 1), 4);
    }

    /** "(they may be the same: 0)". */
    private static void spanOfOne() {
        for (int pit = 0; pit < 4; pit++) {
            int same = pit;
            Bench.told(29, "least of " + pit, Bench::ordinary, m -> m.span(same, same, 0), 0);
            Bench.told(29, "greatest of " + pit, Bench::ordinary, m -> m.span(same, same, 1), 0);
        }
    }

    /** "-100003: it does not close", whichever PITS. */
    private static void spanThatDoesNotClose() {
        for (int a = 0; a < 4; a++) {
            for (int b = 0; b < 4; b++) {
                int from = a;
                int to = b;
                Bench.refused(29, a + ", " + b, Bench::unclosed, m -> m.span(from, to, 0), WIDE_STATE);
            }
        }
    }

    /** "-100004: FLOATING": both ends. */
    private static void spanFloating() {
        for (int end = 0; end <= 1; end++) {
            int asked = end;
            Bench.told(29, "a floating one", Bench::ordinary, m -> m.span(0, 3, asked), WIDE_NONE);
            Bench.told(29, "a floating one", Bench::ordinary, m -> m.span(3, 2, asked), WIDE_NONE);
        }
        LeavesOfMud mud = pits(2);
        mud.tie(0, 5, 5);
        Bench.due(29, "one TIE alone", mud.span(0, 1, 0), WIDE_NONE);
        mud.tie(1, 5, 5);
        Bench.due(29, "two TIES", mud.span(0, 1, 0), 0);
        mud.untie(0);
        mud.join(0, 1, 2, 2, 0);
        mud.keep(0, false);
        Bench.due(29, "a JOIN thrown out", mud.span(0, 1, 0), WIDE_NONE);
    }

    private static void spanMost() {
        LeavesOfMud mud = pits(7);
        for (int pit = 0; pit < 6; pit++) {
            mud.join(pit, pit + 1, -999, 999, 0);
        }
        Bench.due(29, "the least by JOINS", mud.span(0, 6, 0), -5994);
        Bench.due(29, "the greatest by JOINS", mud.span(0, 6, 1), 5994);
        LeavesOfMud ties = pits(2);
        ties.tie(0, -9999, 9999);
        ties.tie(1, -9999, 9999);
        Bench.due(29, "the least by TIES", ties.span(0, 1, 0), -19998);
        Bench.due(29, "the greatest by TIES", ties.span(0, 1, 1), 19998);
        ties.join(0, 1, -999, 999, 0);
        Bench.due(29, "the JOIN is nearer", ties.span(0, 1, 1), 999);
    }

    /** "-100001, -100002, -100003, -100004", in that order. */
    private static void spanRefusalsInOrder() {
        for (int a : new int[] {-1, 0, 3, 4}) {
            for (int b : new int[] {-1, 0, 3, 4}) {
                LeavesOfMud open = Bench.unclosed();
                LeavesOfMud closed = Bench.ordinary();
                for (int end : new int[] {-1, 0, 1, 2}) {
                    boolean unknown = a < 0 || a > 3 || b < 0 || b > 3;
                    int first = unknown ? WIDE_UNKNOWN : end < 0 || end > 1 ? WIDE_OUTSIDE : 0;
                    String told = "span " + a + ", " + b + ", " + end;
                    Bench.due(29, told, open.span(a, b, end), first != 0 ? first : WIDE_STATE);
                    Bench.due(29, told, closed.span(a, b, end), first != 0 ? first : a == b ? 0 : WIDE_NONE);
                }
            }
        }
    }

    // ---- Promise 30

    /** "-100001: UNKNOWN: pit, leaf". */
    private static void dateUnknown() {
        for (int pit : NO_PITS) {
            Bench.refused(30, "pit " + pit, Bench::ordinary, m -> m.date(pit, 0, 0), WIDE_UNKNOWN);
        }
        for (int leaf : new int[] {-1, 7, 16, MIN, MAX}) {
            Bench.refused(30, "leaf " + leaf, Bench::ordinary, m -> m.date(1, leaf, 0), WIDE_UNKNOWN);
        }
        Bench.told(30, "the last leaf", Bench::ordinary, m -> m.date(1, 6, 0), -8795);
        Bench.refused(30, "an empty PIT", Bench::ordinary, m -> m.date(3, 0, 0), WIDE_UNKNOWN);
        Bench.refused(30, "leaf 16 of a full one", Bench::full, m -> m.date(0, 16, 0), WIDE_UNKNOWN);
    }

    /** "end 0 the least, 1 the greatest"; "-100002". */
    private static void dateEnds() {
        for (int end : new int[] {-1, 2, MIN, MAX}) {
            Bench.refused(30, "end " + end, Bench::ordinary, m -> m.date(1, 0, end), WIDE_OUTSIDE);
        }
        Bench.told(30, "end 0", Bench::ordinary, m -> m.date(1, 0, 0), -8800);
        Bench.told(30, "end 1", Bench::ordinary, m -> m.date(1, 0, 1), -8790);
        Bench.told(30, "end 0 by a JOIN", Bench::ordinary, m -> m.date(2, 0, 0), -8803);
        Bench.told(30, "end 1 by a JOIN", Bench::ordinary, m -> m.date(2, 1, 1), -8785);
    }

    /** "-100004: it hangs on no TIE". */
    private static void dateOnNoTie() {
        Bench.Made made = () -> Bench.rows("l1", "l1", "l1");
        Bench.told(30, "no TIE", made, m -> m.date(0, 0, 0), WIDE_NONE);
        LeavesOfMud mud = made.now();
        mud.tie(1, 7, 7);
        mud.join(0, 1, 1, 1, 0);
        Bench.due(30, "by a JOIN", mud.date(0, 0, 0), 6);
        Bench.due(30, "a floating one", mud.date(2, 0, 1), WIDE_NONE);
        mud.keep(0, false);
        Bench.due(30, "a JOIN thrown out", mud.date(0, 0, 0), WIDE_NONE);
        mud.untie(1);
        Bench.due(30, "no TIE any more", mud.date(1, 0, 0), WIDE_NONE);
    }

    private static void dateMost() {
        LeavesOfMud mud = Bench.rows(Bench.times(16, "f1.9"));
        mud.tie(0, -9999, 9999);
        Bench.due(30, "the least of the first", mud.date(0, 0, 0), -9999);
        Bench.due(30, "the greatest of the last", mud.date(0, 15, 1), 9999 + 135);
        LeavesOfMud halves = Bench.rows("h1 l1 l1");
        halves.tie(0, -5, -5);
        Bench.due(30, "AT is rounded down, years below 0, too", halves.date(0, 1, 0), -5);
        Bench.due(30, "AT is rounded down, years below 0, too", halves.date(0, 2, 0), -4);
        LeavesOfMud minus = Bench.rows("l1");
        minus.tie(0, -1, -1);
        Bench.due(30, "the year -1", minus.date(0, 0, 0), -1);
    }

    private static void dateRefusalsInOrder() {
        Bench.refused(30, "pit and end", Bench::ordinary, m -> m.date(4, 0, 2), WIDE_UNKNOWN);
        Bench.refused(30, "leaf, end, not closed", Bench::unclosed, m -> m.date(1, 7, 2), WIDE_UNKNOWN);
        Bench.refused(30, "leaf, not closed", Bench::unclosed, m -> m.date(3, 0, 0), WIDE_UNKNOWN);
        Bench.refused(30, "end, not closed", Bench::unclosed, m -> m.date(1, 0, -1), WIDE_OUTSIDE);
        Bench.refused(30, "not closed", Bench::unclosed, m -> m.date(1, 0, 0), WIDE_STATE);
        Bench.Made floating = () -> {
            LeavesOfMud mud = Bench.unclosed();
            mud.untie(1);
            return mud;
        };
        Bench.refused(30, "not closed, and no TIE", floating, m -> m.date(1, 0, 0), WIDE_STATE);
        Bench.refused(30, "end, and no TIE", () -> Bench.rows("l1"), m -> m.date(0, 0, 2), WIDE_OUTSIDE);
    }

    // ---- Promise 31

    /** "what = 0, 1"; "OUTSIDE". */
    private static void calendarsWhat() {
        for (int what : new int[] {-1, 2, MIN, MAX}) {
            Bench.refused(31, "what " + what, Bench::ordinary, m -> m.calendars(what), OUTSIDE);
            Bench.refused(31, "what " + what + " without PITS", Bench::empty, m -> m.calendars(what), OUTSIDE);
        }
        Bench.told(31, "what 0", Bench::ordinary, m -> m.calendars(0), 2);
        Bench.told(31, "what 1", Bench::ordinary, m -> m.calendars(1), 7);
    }

    /** "(0 without PITS.)" */
    private static void calendarsEmptyAndFull() {
        Bench.told(31, "how many without PITS", Bench::empty, m -> m.calendars(0), 0);
        Bench.told(31, "that of PIT 0 without PITS", Bench::empty, m -> m.calendars(1), 0);
        for (int many = 1; many <= 7; many++) {
            Bench.due(31, many + " PITS that float", pits(many).calendars(0), many);
            Bench.due(31, "that of PIT 0", pits(many).calendars(1), 1);
        }
        Bench.told(31, "all seven by JOINS and TIES", Bench::full, m -> m.calendars(1), 127);
        Bench.told(31, "whether IT CLOSES or not", Bench::unclosed, m -> m.calendars(0), 2);
        LeavesOfMud last = pits(7);
        last.join(6, 0, 0, 0, 0);
        Bench.due(31, "the first and the last", last.calendars(1), 65);
        Bench.due(31, "the others", last.calendars(0), 6);
    }

    /** "(TIES: all tied ones hang together, too)". */
    private static void calendarsByTies() {
        LeavesOfMud mud = pits(4);
        mud.tie(3, 0, 0);
        Bench.due(31, "one TIE", mud.calendars(0), 4);
        mud.tie(1, 0, 0);
        Bench.due(31, "two TIES", mud.calendars(0), 3);
        Bench.due(31, "PIT 0 is not tied", mud.calendars(1), 1);
        mud.join(0, 3, 0, 0, 0);
        Bench.due(31, "PIT 0 hangs on one", mud.calendars(1), 11);
        mud.untie(1);
        Bench.due(31, "not on PIT 1 any more", mud.calendars(1), 9);
        LeavesOfMud again = pits(3);
        again.join(1, 0, 0, 0, 0);
        again.join(2, 1, 0, 0, 0);
        Bench.due(31, "by JOINS to PIT 0", again.calendars(1), 7);
        again.keep(0, false);
        Bench.due(31, "PIT 0 is alone again", again.calendars(1), 1);
        Bench.due(31, "the others are not", again.calendars(0), 2);
    }

    // ---- Promise 32

    /** The set of none, if IT CLOSES. */
    private static void castOutOfNothing() {
        Bench.told(32, "no PITS", Bench::empty, m -> m.castOut(), 0);
        Bench.told(32, "no JOINS", () -> pits(7), m -> m.castOut(), 0);
        Bench.told(32, "it closes", Bench::ordinary, m -> m.castOut(), 0);
        Bench.told(32, "twelve JOINS, it closes", Bench::full, m -> m.castOut(), 0);
        Bench.told(32, "the one that can't be", Bench::unclosed, m -> m.castOut(), 4);
    }

    /** "(there is none, if it does not even without all)"; "NONE: there is no such set". */
    private static void castOutNotEvenWithoutAll() {
        Bench.told(32, "ASHES", () -> Bench.rows("a1.1 a1.2", "a1.2 a1.1"), m -> m.castOut(), NONE);
        LeavesOfMud mud = Bench.rows("a1.1", "a1.1");
        mud.tie(0, 0, 0);
        mud.tie(1, 1, 1);
        mud.join(0, 1, 0, 0, 0);
        Bench.due(32, "TIES and ASHES", mud.castOut(), NONE);
        mud.ashes(false);
        Bench.due(32, "ASHES not looked at", mud.castOut(), 1);
        mud.ashes(true);
        Bench.due(32, "ASHES looked at again", mud.castOut(), NONE);
        mud.tie(1, 0, 0);
        Bench.due(32, "it closes", mud.castOut(), 0);
    }

    /** "of all sets of kept JOINS". */
    private static void castOutOfThrownOut() {
        LeavesOfMud mud = pits(2);
        mud.join(0, 1, 0, 0, 9);
        mud.join(0, 1, 1, 1, 9);
        mud.join(0, 1, 1, 1, 9);
        Bench.due(32, "the one that stands alone", mud.castOut(), 1);
        mud.keep(0, false);
        Bench.due(32, "it is thrown out already", mud.castOut(), 0);
        mud.keep(0, true);
        mud.keep(1, false);
        Bench.due(32, "one against one: the least bits", mud.castOut(), 1);
    }

    /** "one of fewest; of like ones of most DOUBT together; of like ones of least bits". */
    private static void castOutFewestMostDoubtLeastBits() {
        LeavesOfMud fewest = pits(2);
        fewest.join(0, 1, 0, 0, 99);
        fewest.join(0, 1, 0, 0, 99);
        fewest.join(0, 1, 1, 1, 0);
        Bench.due(32, "one of no DOUBT is fewer than two", fewest.castOut(), 4);
        LeavesOfMud doubt = pits(2);
        doubt.join(0, 1, 0, 0, 98);
        doubt.join(0, 1, 1, 1, 99);
        Bench.due(32, "more DOUBT by one", doubt.castOut(), 2);
        LeavesOfMud like = pits(3);
        like.join(0, 1, 0, 0, 5);
        like.join(1, 2, 0, 0, 5);
        like.join(0, 2, 1, 1, 5);
        Bench.due(32, "each of three: the least bits", like.castOut(), 1);
        LeavesOfMud sum = pits(4);
        sum.join(0, 1, 0, 0, 3);
        sum.join(0, 1, 1, 1, 4);
        sum.join(2, 3, 0, 0, 4);
        sum.join(2, 3, 1, 1, 3);
        Bench.due(32, "of most DOUBT together", sum.castOut(), 2 + 4);
        LeavesOfMud cross = pits(2);
        cross.join(0, 1, 0, 0, 0);
        cross.join(0, 1, 9, 9, 0);
        cross.join(0, 1, 9, 9, 0);
        cross.join(0, 1, 0, 0, 0);
        Bench.due(32, "of no DOUBT at all, 6 is less than 9", cross.castOut(), 6);
    }

    private static void castOutOfAllTwelve() {
        LeavesOfMud mud = pits(2);
        for (int join = 0; join < 12; join++) {
            mud.join(0, 1, 2 * join, 2 * join, 99);
        }
        Bench.due(32, "all but one: the least bits", mud.castOut(), 2047);
        mud.tie(0, 0, 0);
        mud.tie(1, 1, 1);
        Bench.due(32, "all twelve", mud.castOut(), 4095);
        mud.tie(1, 0, 0);
        Bench.due(32, "all but the first", mud.castOut(), 4094);
    }

    // ---- Promise 33

    /** "UNKNOWN: a, b", ahead of STATE. */
    private static void hangsUnknown() {
        for (int pit : NO_PITS) {
            Bench.refused(33, "a " + pit, Bench::ordinary, m -> m.hangs(pit, 0), UNKNOWN);
            Bench.refused(33, "b " + pit, Bench::ordinary, m -> m.hangs(0, pit), UNKNOWN);
            Bench.refused(33, "b " + pit + ", not closed", Bench::unclosed, m -> m.hangs(0, pit), UNKNOWN);
        }
        Bench.refused(33, "pit 7 of seven", Bench::full, m -> m.hangs(7, 0), UNKNOWN);
    }

    /** "STATE: it does not close, or they are FLOATING". */
    private static void hangsState() {
        Bench.refused(33, "not closed", Bench::unclosed, m -> m.hangs(0, 1), STATE);
        Bench.refused(33, "not closed, of one", Bench::unclosed, m -> m.hangs(0, 0), STATE);
        Bench.refused(33, "floating", Bench::ordinary, m -> m.hangs(0, 3), STATE);
        Bench.refused(33, "floating", Bench::ordinary, m -> m.hangs(3, 1), STATE);
        Bench.told(33, "by ASHES alone: no JOIN", Bench::ordinary, m -> m.hangs(0, 1), 0);
        Bench.told(33, "by the one JOIN kept", Bench::ordinary, m -> m.hangs(2, 0), 1);
    }

    /** A PIT and itself hang on no JOIN, a floating one, too. */
    private static void hangsOfOne() {
        Bench.told(33, "of one", Bench::ordinary, m -> m.hangs(2, 2), 0);
        Bench.told(33, "of a floating one", Bench::ordinary, m -> m.hangs(3, 3), 0);
    }

    /** "of which each, thrown out alone, would make the SPAN of a, b wider or FLOATING". */
    private static void hangsWiderByOne() {
        LeavesOfMud mud = pits(3);
        mud.join(0, 1, 0, 5, 0);
        Bench.due(33, "FLOATING without it", mud.hangs(0, 1), 1);
        mud.join(0, 1, 0, 6, 0);
        Bench.due(33, "wider by a year above", mud.hangs(0, 1), 1);
        mud.join(0, 1, -1, 5, 0);
        Bench.due(33, "the two others tell as much", mud.hangs(0, 1), 0);
        mud.keep(1, false);
        Bench.due(33, "wider by a year below", mud.hangs(0, 1), 1);
        mud.keep(0, false);
        Bench.due(33, "FLOATING without it, those thrown out are none", mud.hangs(1, 0), 4);
        mud.tie(0, 0, 0);
        mud.tie(1, -1, 5);
        Bench.due(33, "TIES tell as much", mud.hangs(0, 1), 0);
        LeavesOfMud ends = pits(4);
        ends.join(2, 3, 0, 9, 0);
        ends.join(2, 3, -1, 9, 0);
        Bench.due(33, "wider below alone, of PITS 2 and 3", ends.hangs(2, 3), 1);
        ends.join(2, 3, 0, 10, 0);
        Bench.due(33, "no more", ends.hangs(2, 3), 0);
        ends.keep(1, false);
        Bench.due(33, "wider above alone, of PITS 2 and 3", ends.hangs(3, 2), 1);
        LeavesOfMud last = pits(7);
        for (int join = 0; join < 12; join++) {
            last.join(join % 6, join % 6 + 1, join < 6 ? -2 : -1, 2, 0);
        }
        Bench.due(33, "the last six of twelve", last.hangs(0, 6), 4032);
        Bench.due(33, "the first and the seventh of twelve", last.hangs(0, 1), 64);
    }

    // ---- Promise 34

    /** "what = 0 a, 1 b, 2 THE WORST"; "OUTSIDE", ahead of STATE. */
    private static void digWhat() {
        for (int what : new int[] {-1, 3, MIN, MAX}) {
            Bench.refused(34, "what " + what, Bench::ordinary, m -> m.dig(what), OUTSIDE);
            Bench.refused(34, "what " + what + ", not closed", Bench::unclosed, m -> m.dig(what), OUTSIDE);
            Bench.refused(34, "what " + what + ", done 8 times", Bench::full, m -> m.dig(what), OUTSIDE);
        }
        // PITS 0 and 1 are one day: PIT 2 found from 0 is found from 1
        Bench.taken(34, "a", Bench::ordinary, m -> m.dig(0), 0);
        Bench.taken(34, "b", Bench::ordinary, m -> m.dig(1), 2);
        Bench.taken(34, "THE WORST", Bench::ordinary, m -> m.dig(2), 0);
    }

    /** "whose WIDTH is 1 to 40". */
    private static void digWidthIs1To40() {
        int[] widths = {0, 1, 2, 39, 40, 41, 1998};
        for (int width : widths) {
            Bench.Made made = () -> {
                LeavesOfMud mud = pits(2);
                mud.join(1, 0, -999, width - 999, 0);
                return mud;
            };
            boolean is = width >= 1 && width <= 40;
            Bench.taken(34, "WIDTH " + width + ", a", made, m -> m.dig(0), is ? 0 : NONE);
            Bench.taken(34, "WIDTH " + width + ", b", made, m -> m.dig(1), is ? 1 : NONE);
            Bench.taken(34, "WIDTH " + width + ", THE WORST", made, m -> m.dig(2), is ? 0 : NONE);
        }
        LeavesOfMud both = pits(3);
        both.join(0, 1, 0, 41, 0);
        both.join(1, 2, 0, 1, 0);
        // found from 1 to 2: 41 is left of 0, 1 and of 0, 2; the wider ones are not looked at
        Bench.due(34, "41, 1 and 42, a", both.dig(0), 1);
        Bench.due(34, "41, 1 and 42, b", both.dig(1), 2);
        Bench.due(34, "41, 1 and 42, THE WORST", both.dig(2), 82);
    }

    /** "STATE: it does not close": that is not done, and not counted. */
    private static void digStateIsNotDone() {
        Bench.refused(34, "not closed", Bench::unclosed, m -> m.dig(0), STATE);
        Bench.refused(34, "not closed", Bench::unclosed, m -> m.dig(2), STATE);
        LeavesOfMud mud = Bench.unclosed();
        for (int i = 0; i < 20; i++) {
            mud.dig(i % 3);
        }
        Bench.due(39, "done once, when it was closed", mud.count(9), 1);
        mud.keep(2, false);
        for (int time = 2; time <= 8; time++) {
            Bench.due(34, "time " + time, mud.dig(2), 0);
        }
        Bench.due(34, "time 9", mud.dig(2), STATE);
    }

    /** "or it was done 8 times": NONE is an answer, too; an IMAGE does not take it back. */
    private static void digIsDone8Times() {
        LeavesOfMud mud = pits(2);
        mud.image();
        for (int time = 1; time <= 8; time++) {
            if (time == 5) {
                mud.join(0, 1, 0, 3, 0);
            }
            Bench.due(34, "time " + time, mud.dig(1), time < 5 ? NONE : 1);
            Bench.due(39, "done", mud.count(9), time);
        }
        Bench.due(34, "time 9", mud.dig(1), STATE);
        Bench.due(34, "OUTSIDE is ahead of STATE", mud.dig(3), OUTSIDE);
        mud.restore();
        Bench.due(34, "an IMAGE does not take it back", mud.dig(1), STATE);
        Bench.due(39, "still 8", mud.count(9), 8);
        Bench.refused(34, "STATE changes nothing", Bench::full, m -> m.dig(0), STATE);
    }

    /** "NONE: there is no such pair". */
    private static void digNoPair() {
        for (int what = 0; what <= 2; what++) {
            int asked = what;
            Bench.taken(34, "no PITS", Bench::empty, m -> m.dig(asked), NONE);
            Bench.taken(34, "one PIT", () -> pits(1), m -> m.dig(asked), NONE);
            Bench.taken(34, "all float", () -> pits(7), m -> m.dig(asked), NONE);
            Bench.taken(34, "all is known", () -> Bench.rows("a1.1", "l1 a1.1"), m -> m.dig(asked), NONE);
        }
        LeavesOfMud mud = pits(2);
        mud.join(0, 1, 0, 3, 0);
        int[] pair = {0, 1, 0};
        for (int what = 0; what <= 2; what++) {
            mud.keep(0, true);
            Bench.due(34, "a pair, what " + what, mud.dig(what), pair[what]);
            mud.keep(0, false);
            Bench.due(34, "none any more, what " + what, mud.dig(what), NONE);
        }
    }

    /** "the pair of least WORST, of like ones the least a, then b". */
    private static void digOfLikeOnes() {
        LeavesOfMud mud = pits(3);
        mud.join(0, 1, 0, 2, 0);
        mud.join(1, 2, 0, 3, 0);
        // found from 0 to 1: 3 and 3; from 1 to 2: 2 and 2; from 0 to 2: 2 and 2 at most
        Bench.due(34, "a of like ones", mud.dig(0), 0);
        Bench.due(34, "b of like ones", mud.dig(1), 2);
        Bench.due(34, "THE WORST", mud.dig(2), 4);
        LeavesOfMud apart = pits(7);
        apart.join(6, 5, 0, 1, 0);
        apart.join(4, 3, 0, 1, 0);
        Bench.due(34, "the least a", apart.dig(0), 3);
        Bench.due(34, "with its b", apart.dig(1), 4);
        Bench.due(34, "the other calendar's WIDTH is left", apart.dig(2), 1);
        LeavesOfMud star = pits(3);
        star.join(0, 1, 0, 4, 0);
        star.join(0, 2, 0, 4, 0);
        star.join(1, 2, 0, 0, 0);
        Bench.due(34, "one a: the least b", star.dig(1), 1);
    }

    /** "each whole number of their SPAN may be": the first and the last of 41 are the worst. */
    private static void digWorstAtTheEnds() {
        LeavesOfMud mud = pits(3);
        mud.join(0, 1, 0, 40, 0);
        mud.join(0, 2, 0, 100, 0);
        mud.join(1, 2, -200, 0, 0);
        // PIT 2 is from PIT 0 to PIT 1: 1 found at 40 leaves 40 and 40, as 2 found at 0 does, and 2 at 1
        Bench.due(34, "THE WORST", mud.dig(2), 80);
        Bench.due(34, "a", mud.dig(0), 0);
        Bench.due(34, "b", mud.dig(1), 1);
    }

    /** Seven PITS: the year 0, from which TIES count, is no PIT of a pair. */
    private static void digOfSevenPits() {
        LeavesOfMud mud = pits(7);
        mud.tie(6, 0, 10);
        Bench.due(34, "one TIE is no pair", mud.dig(1), NONE);
        mud.join(5, 6, 0, 3, 0);
        Bench.due(34, "a", mud.dig(0), 5);
        Bench.due(34, "b", mud.dig(1), 6);
        Bench.due(34, "no WIDTH is left", mud.dig(2), 0);
        LeavesOfMud all = pits(7);
        for (int pit = 0; pit < 6; pit++) {
            all.join(pit, pit + 1, 0, 6, 0);
        }
        int[] due = digOfAChain();
        for (int what = 0; what <= 2; what++) {
            Bench.due(34, "seven in a chain, what " + what, all.dig(what), due[what]);
        }
    }

    /** Seven PITS in a chain of gaps of 0 to 6: a, b and THE WORST. */
    private static int[] digOfAChain() {
        int[] best = null;
        for (int a = 0; a < 7; a++) {
            for (int b = a + 1; b < 7; b++) {
                int worst = 0;
                for (int found = 0; found <= 6 * (b - a); found++) {
                    worst = Math.max(worst, widthsOfAChain(a, b, found));
                }
                if (best == null || worst < best[2]) {
                    best = new int[] {a, b, worst};
                }
            }
        }
        return best;
    }

    /** Gaps of c to d that are of a to b, too, share what was found with the rest of those; all others are free. */
    private static int widthsOfAChain(int a, int b, int found) {
        int sum = 0;
        for (int c = 0; c < 7; c++) {
            for (int d = c + 1; d < 7; d++) {
                int both = Math.max(0, Math.min(b, d) - Math.max(a, c));
                int least = Math.max(0, found - 6 * (b - a - both));
                sum += Math.min(6 * both, found) - least + 6 * (d - c - both);
            }
        }
        return sum;
    }

    /** All tied ones are of one CALENDAR; their TIES are bounds of what may be found. */
    private static void digByTies() {
        LeavesOfMud mud = pits(3);
        mud.tie(1, 0, 40);
        mud.tie(2, 7, 7);
        Bench.due(34, "a", mud.dig(0), 1);
        Bench.due(34, "b", mud.dig(1), 2);
        Bench.due(34, "THE WORST", mud.dig(2), 0);
        mud.tie(1, 0, 41);
        Bench.due(34, "a year too wide", mud.dig(0), NONE);
    }
}
