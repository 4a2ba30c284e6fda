/** Each promise of the document, with answers worked out by hand: what is ordinary, the edges, what is refused. */
public final class PromiseTest {
    private static final int NONE = LeavesOfMud.NONE;
    private static final int UNKNOWN = LeavesOfMud.UNKNOWN;
    private static final int OUTSIDE = LeavesOfMud.OUTSIDE;
    private static final int STATE = LeavesOfMud.STATE;
    private static final int FULL = LeavesOfMud.FULL;
    private static final int WIDE_UNKNOWN = -100001;
    private static final int WIDE_OUTSIDE = -100002;
    private static final int WIDE_STATE = -100003;
    private static final int WIDE_NONE = -100004;
    private static final int MAX = Integer.MAX_VALUE;
    private static final int MIN = Integer.MIN_VALUE;

    private static final int LEAF = 0;
    private static final int WARM = 1;
    private static final int HALF = 3;
    private static final int FLOOD = 4;
    private static final int ASH = 5;
    private static final int SLUMP = 6;

    private static int wrong = 0;
    private static int asked = 0;

    public static void main(String[] args) {
        constants();
        newObject();
        pit();
        leaf();
        as();
        about();
        change();
        lay();
        letters();
        blank();
        faultOfHands();
        faultOfLaws();
        hand();
        law();
        at();
        yearsAndLean();
        likeAndOver();
        slide();
        chance();
        togetherPrices();
        togetherWays();
        liesAndSure();
        sureOftenDone();
        join();
        keep();
        ties();
        ashes();
        closes();
        span();
        date();
        calendars();
        castOut();
        hangs();
        dig();
        digOftenDone();
        pace();
        took();
        image();
        count();
        digest();
        System.out.println(asked + " answers, " + wrong + " wrong");
        if (wrong > 0) {
            System.exit(1);
        }
    }

    private static void due(int promise, String what, long got, long want) {
        asked++;
        if (got != want) {
            wrong++;
            System.out.println("promise " + promise + ": " + what + " answered " + got + ", due is " + want);
        }
    }

    /** A letter each for l, w, n, h, f, a, s as kinds, then the thickness; n behind a dot: "l12 a9.1". */
    private static int row(LeavesOfMud mud, int miles, String leaves) {
        int pit = mud.pit(miles);
        for (String one : leaves.split(" ")) {
            if (!one.isEmpty()) {
                String[] parts = one.substring(1).split("\\.");
                int n = parts.length > 1 ? Integer.parseInt(parts[1]) : 0;
                mud.leaf(pit, "lwnhfas".indexOf(one.charAt(0)), Integer.parseInt(parts[0]), n);
            }
        }
        return pit;
    }

    private static long word(String text) {
        long w = 0;
        for (int i = text.length() - 1; i >= 0; i--) {
            w = w << 8 | text.charAt(i);
        }
        return w;
    }

    private static void write(LeavesOfMud mud, String text) {
        for (int i = 0; i < text.length(); i += 8) {
            mud.letters(word(text.substring(i, Math.min(text.length(), i + 8))));
        }
    }

    private static int handOf(LeavesOfMud mud, String text) {
        write(mud, text);
        return mud.hand();
    }

    private static int lawOf(LeavesOfMud mud, String text) {
        write(mud, text);
        return mud.law();
    }

    private static int faultIn(String text, int sort) {
        LeavesOfMud mud = new LeavesOfMud();
        write(mud, text);
        return mud.fault(sort);
    }

    private static void constants() {
        due(1, "NONE", LeavesOfMud.NONE, -1);
        due(1, "UNKNOWN", LeavesOfMud.UNKNOWN, -101);
        due(1, "OUTSIDE", LeavesOfMud.OUTSIDE, -102);
        due(1, "STATE", LeavesOfMud.STATE, -103);
        due(1, "FULL", LeavesOfMud.FULL, -104);
    }

    private static void newObject() {
        LeavesOfMud mud = new LeavesOfMud();
        for (int what = 0; what <= 9; what++) {
            due(1, "count " + what, mud.count(what), 0);
        }
        due(1, "ashes", mud.ashes(true), 1);
        due(1, "restore", mud.restore(), STATE);
        due(1, "calendars", mud.calendars(0), 0);
        due(1, "closes", mud.closes(), 1);
    }

    private static void pit() {
        LeavesOfMud mud = new LeavesOfMud();
        due(2, "below 0", mud.pit(-1), OUTSIDE);
        due(2, "least int", mud.pit(MIN), OUTSIDE);
        due(2, "above 240", mud.pit(241), OUTSIDE);
        due(2, "none was made", mud.count(0), 0);
        due(2, "0 miles", mud.pit(0), 0);
        due(2, "240 miles", mud.pit(240), 1);
        for (int i = 2; i < 7; i++) {
            due(2, "pit " + i, mud.pit(i), i);
        }
        due(2, "the eighth", mud.pit(7), FULL);
        due(2, "OUTSIDE is ahead of FULL", mud.pit(241), OUTSIDE);
        due(2, "miles", mud.about(1, NONE, 0), 240);
        due(2, "leaves", mud.about(1, NONE, 1), 0);
    }

    private static void leaf() {
        LeavesOfMud mud = new LeavesOfMud();
        due(3, "no pit", mud.leaf(0, 0, 1, 0), UNKNOWN);
        mud.pit(1);
        due(3, "UNKNOWN is ahead", mud.leaf(1, 7, 0, 10), UNKNOWN);
        due(3, "pit below 0", mud.leaf(-1, 0, 1, 0), UNKNOWN);
        due(3, "kind below", mud.leaf(0, -1, 1, 0), OUTSIDE);
        due(3, "kind above", mud.leaf(0, 7, 1, 0), OUTSIDE);
        due(3, "thickness below", mud.leaf(0, 0, 0, 0), OUTSIDE);
        due(3, "thickness above", mud.leaf(0, 0, 100, 0), OUTSIDE);
        due(3, "n below", mud.leaf(0, 0, 1, -1), OUTSIDE);
        due(3, "n above", mud.leaf(0, 0, 1, 10), OUTSIDE);
        due(3, "least", mud.leaf(0, 0, 1, 0), 1);
        due(3, "most", mud.leaf(0, 6, 99, 9), 2);
        for (int i = 3; i <= 16; i++) {
            due(3, "leaf " + i, mud.leaf(0, 2, 50, 5), i);
        }
        due(3, "the 17th", mud.leaf(0, 0, 1, 0), FULL);
        due(3, "OUTSIDE is ahead of FULL", mud.leaf(0, 0, 1, 10), OUTSIDE);
        due(3, "kind of 1", mud.about(0, 1, 0), 6);
        due(3, "thickness of 1", mud.about(0, 1, 1), 99);
        due(3, "n of 1", mud.about(0, 1, 2), 9);
        due(3, "kind of 0", mud.about(0, 0, 0), 0);
    }

    private static void as() {
        LeavesOfMud mud = new LeavesOfMud();
        row(mud, 0, "l1 w1 n1 h1 f1 a1 s1");
        for (int own = 0; own < 7; own++) {
            for (int kind = 0; kind < 7; kind++) {
                boolean is = kind == own || kind == LEAF || own == ASH && kind == WARM
                        || own == FLOOD && kind == SLUMP;
                due(4, own + " as " + kind, mud.as(0, own, kind), is ? own : NONE);
            }
        }
        due(4, "no pit", mud.as(1, 0, 0), UNKNOWN);
        due(4, "no leaf", mud.as(0, 7, 7), UNKNOWN);
        due(4, "leaf below", mud.as(0, -1, 0), UNKNOWN);
        due(4, "kind below", mud.as(0, 0, -1), OUTSIDE);
        due(4, "kind above", mud.as(0, 0, 7), OUTSIDE);
    }

    private static void about() {
        LeavesOfMud mud = new LeavesOfMud();
        row(mud, 77, "l5 a9.3 h9 f2.4");
        int[][] told = {{LEAF, 5, 0, 1}, {ASH, 9, 3, 2}, {HALF, 9, 0, 1}, {FLOOD, 2, 4, 0}};
        for (int leaf = 0; leaf < 4; leaf++) {
            for (int what = 0; what < 4; what++) {
                due(5, "leaf " + leaf + " what " + what, mud.about(0, leaf, what), told[leaf][what]);
            }
        }
        due(5, "miles", mud.about(0, NONE, 0), 77);
        due(5, "leaves", mud.about(0, NONE, 1), 4);
        due(5, "years: 2, 2, 1, 8 halves, rounded up", mud.about(0, NONE, 2), 7);
        due(5, "a pit has no step", mud.about(0, NONE, 3), OUTSIDE);
        due(5, "pit, what below", mud.about(0, NONE, -1), OUTSIDE);
        due(5, "leaf, what above", mud.about(0, 0, 4), OUTSIDE);
        due(5, "leaf, what below", mud.about(0, 0, -1), OUTSIDE);
        due(5, "no pit", mud.about(1, NONE, 9), UNKNOWN);
        due(5, "no leaf", mud.about(0, 4, 9), UNKNOWN);
        due(5, "leaf below", mud.about(0, -2, 0), UNKNOWN);
    }

    private static void change() {
        LeavesOfMud mud = new LeavesOfMud();
        row(mud, 0, "l5 l6");
        due(6, "no pit", mud.change(1, 0, 0, 1, 0), UNKNOWN);
        due(6, "no leaf", mud.change(0, 2, 7, 0, 0), UNKNOWN);
        due(6, "leaf NONE", mud.change(0, NONE, 0, 1, 0), UNKNOWN);
        due(6, "kind", mud.change(0, 0, 7, 1, 0), OUTSIDE);
        due(6, "thickness", mud.change(0, 0, 0, 100, 0), OUTSIDE);
        due(6, "n", mud.change(0, 0, 0, 1, 10), OUTSIDE);
        due(6, "nothing was changed", mud.about(0, 0, 1), 5);
        due(6, "what it had", mud.change(0, 1, ASH, 3, 8), 6);
        due(6, "kind now", mud.about(0, 1, 0), ASH);
        due(6, "thickness now", mud.about(0, 1, 1), 3);
        due(6, "n now", mud.about(0, 1, 2), 8);
        due(6, "step now", mud.about(0, 1, 3), 0);
        due(6, "still two", mud.about(0, NONE, 1), 2);
    }

    private static void lay() {
        LeavesOfMud mud = new LeavesOfMud();
        due(7, "no pit", mud.lay(0, 0, 1, 0, 0), UNKNOWN);
        mud.pit(0);
        due(7, "seed", mud.lay(0, -1, 1, 0, 0), OUTSIDE);
        due(7, "no years", mud.lay(0, 0, 0, 0, 0), OUTSIDE);
        due(7, "years above", mud.lay(0, 0, 21, 0, 0), OUTSIDE);
        due(7, "p below", mud.lay(0, 0, 1, -1, 0), OUTSIDE);
        due(7, "p above", mud.lay(0, 0, 1, 100, 0), OUTSIDE);
        due(7, "q below", mud.lay(0, 0, 1, 0, -1), OUTSIDE);
        due(7, "q above", mud.lay(0, 0, 1, 0, 100), OUTSIDE);
        // draws (w, e, x) of seed 1: (38, 4, 13) (35, 1, 27) (10, 3, 12) (6, 1, 67) (4, 0, 25) (23, 3, 83)
        due(7, "by seed 1", mud.lay(0, 1, 6, 20, 30), 6);
        leavesDue(mud, 0, new int[][] {{3, 38}, {3, 3}, {0, 12}, {3, 7}, {3, 2}, {0, 31}});
        mud.pit(0);
        due(7, "x below p is no leaf", mud.lay(1, 1, 1, 14, 0), 0);
        due(7, "x of 13 is not below 13; w above 34 is warm", mud.lay(1, 1, 1, 13, 0), 1);
        due(7, "x is below p and q together", mud.lay(1, 1, 1, 7, 7), 3);
        due(7, "x is not below p and q together", mud.lay(1, 1, 1, 7, 6), 4);
        due(7, "w of 34 is not warm", mud.lay(1, 8, 1, 0, 0), 5);
        due(7, "w of 35 is", mud.lay(1, 36, 1, 0, 0), 6);
        leavesDue(mud, 1, new int[][] {{1, 47}, {3, 41}, {3, 6}, {1, 47}, {0, 41}, {1, 41}});
        mud.pit(0);
        mud.pit(0);
        due(7, "the greatest seed", mud.lay(2, MAX, 6, 20, 30), 9);
        leavesDue(mud, 2, new int[][] {{0, 19}, {3, 41}, {3, 3}, {3, 3}, {3, 7}, {0, 24}, {3, 38}, {3, 6}, {1, 46}});
        mud.pit(0);
        due(7, "x of 13 is not below 13, but below 14", mud.lay(4, 1, 1, 13, 1), 2);
        // draws of seed 0: (0, 0, 88) (37, 0, 27)
        due(7, "seed 0", mud.lay(4, 0, 2, 27, 61), 5);
        leavesDue(mud, 4, new int[][] {{3, 41}, {3, 6}, {0, 5}, {3, 40}, {3, 2}});
        mud.leaf(3, FLOOD, 9, 9);
        due(7, "no more than 16", mud.lay(3, 5, 20, 0, 99), 16);
        due(7, "the flood is still at the bottom", mud.about(3, 0, 0), FLOOD);
        due(7, "on a full one", mud.lay(3, 5, 1, 0, 0), 16);
    }

    private static void leavesDue(LeavesOfMud mud, int pit, int[][] leaves) {
        for (int i = 0; i < leaves.length; i++) {
            due(7, "kind of leaf " + i + " of pit " + pit, mud.about(pit, i, 0), leaves[i][0]);
            due(7, "thickness of leaf " + i + " of pit " + pit, mud.about(pit, i, 1), leaves[i][1]);
            due(7, "n of leaf " + i + " of pit " + pit, mud.about(pit, i, 2), 0);
        }
    }

    private static void letters() {
        LeavesOfMud mud = new LeavesOfMud();
        due(8, "none", mud.letters(0), 0);
        due(8, "127", mud.letters(127), OUTSIDE);
        due(8, "255", mud.letters(-1L), OUTSIDE);
        due(8, "the top byte of 128", mud.letters(Long.MIN_VALUE), OUTSIDE);
        due(8, "one behind a 0", mud.letters(0x6c006cL), OUTSIDE);
        due(8, "a 0 first", mud.letters(0x6c00L), OUTSIDE);
        due(8, "nothing was written", mud.count(7), 0);
        due(8, "1 and 126", mud.letters(0x7e01L), 2);
        due(8, "eight", mud.letters(word("abcdefgh")), 10);
        due(8, "eight more", mud.letters(word("abcdefgh")), 18);
        due(8, "eight more", mud.letters(word("abcdefgh")), 26);
        due(8, "above 30", mud.letters(word("abcde")), FULL);
        due(8, "OUTSIDE is ahead of FULL", mud.letters(0x7f6c6c6c6c6cL), OUTSIDE);
        due(8, "nothing was written", mud.count(7), 26);
        due(8, "30", mud.letters(word("abcd")), 30);
        due(8, "none on a full one", mud.letters(0), 30);
        due(8, "one more", mud.letters(97), FULL);
        LeavesOfMud order = new LeavesOfMud();
        order.letters(word("l2"));
        due(8, "the lowest byte is first", order.fault(0), 2);
        order.letters(word(",s4"));
        due(8, "behind those that were there", order.hand(), 0);
    }

    private static void blank() {
        LeavesOfMud mud = new LeavesOfMud();
        due(9, "empty", mud.blank(), 0);
        mud.letters(word("abc"));
        due(9, "three", mud.blank(), 3);
        due(9, "empty then", mud.count(7), 0);
    }

    private static void faultOfHands() {
        due(10, "sort below", faultIn("", -1), OUTSIDE);
        due(10, "sort above", faultIn("", 2), OUTSIDE);
        due(10, "empty", faultIn("", 0), 0);
        due(10, "a hand", faultIn("l0,w1,n2,h3,f4,a5,s9", 0), 20);
        due(10, "no eighth item", faultIn("l0,w1,n2,h3,f4,a5,s9,", 0), 20);
        due(10, "not whole yet", faultIn("l", 0), 1);
        due(10, "not whole yet", faultIn("l4,", 0), 3);
        due(10, "no such letter", faultIn("d3", 0), 0);
        due(10, "no digit", faultIn("l,", 0), 1);
        due(10, "two digits", faultIn("l44", 0), 2);
        due(10, "twice", faultIn("l4,w2,l3", 0), 6);
        due(10, "two commas", faultIn("l4,,w2", 0), 3);
        due(10, "comma first", faultIn(",l4", 0), 0);
        due(10, "digit first", faultIn("4l", 0), 0);
        due(10, "great letter", faultIn("L4", 0), 0);
        due(10, "below the digits", faultIn("l/", 0), 1);
        due(10, "above the digits", faultIn("l:", 0), 1);
    }

    private static void faultOfLaws() {
        due(10, "empty", faultIn("", 1), 0);
        due(10, "a law", faultIn("l10,d0,u99,a05", 1), 14);
        due(10, "no fifth item", faultIn("l1,d2,u3,a4,", 1), 11);
        due(10, "a fourth digit ..", faultIn("l1,d2,u3,a44", 1), 12);
        due(10, "three digits", faultIn("l123", 1), 3);
        due(10, "no such letter", faultIn("w1", 1), 0);
        due(10, "twice", faultIn("a1,a2", 1), 3);
        due(10, "no digit", faultIn("a1,d,", 1), 4);
        due(10, "not whole yet", faultIn("a1,d", 1), 4);
    }

    private static void hand() {
        LeavesOfMud mud = new LeavesOfMud();
        due(11, "empty", mud.hand(), STATE);
        mud.letters(word("l"));
        due(11, "half", mud.hand(), STATE);
        due(11, "the page is as it was", mud.count(7), 1);
        mud.letters(word("4"));
        due(11, "a hand", mud.hand(), 0);
        due(11, "the page is empty", mud.count(7), 0);
        mud.letters(word("l4,"));
        due(11, "a comma last", mud.hand(), STATE);
        mud.blank();
        mud.letters(word("u4"));
        due(11, "a law is none", mud.hand(), STATE);
        mud.blank();
        due(11, "second", handOf(mud, "s9"), 1);
        due(11, "third", handOf(mud, "s9"), 2);
        due(11, "fourth", handOf(mud, "l0,w1,n2,h3,f4,a5,s9"), 3);
        due(11, "fifth", handOf(mud, "s9"), FULL);
        due(11, "the page is as it was", mud.count(7), 2);
        mud.letters(word("9"));
        due(11, "STATE is ahead of FULL", mud.hand(), STATE);
        due(11, "hands", mud.count(2), 4);
    }

    private static void law() {
        LeavesOfMud mud = new LeavesOfMud();
        due(12, "empty", mud.law(), STATE);
        mud.letters(word("d"));
        due(12, "half", mud.law(), STATE);
        mud.letters(word("12"));
        due(12, "a law", mud.law(), 0);
        due(12, "the page is empty", mud.count(7), 0);
        mud.letters(word("s4"));
        due(12, "a hand is none", mud.law(), STATE);
        mud.blank();
        due(12, "second", lawOf(mud, "l00"), 1);
        due(12, "third", lawOf(mud, "a99,u0"), 2);
        due(12, "fourth", lawOf(mud, "l1,d2,u3,a4"), 3);
        due(12, "fifth", lawOf(mud, "l1"), FULL);
        due(12, "the page is as it was", mud.count(7), 2);
        mud.letters(word("00"));
        due(12, "STATE is ahead of FULL", mud.law(), STATE);
        due(12, "laws", mud.count(3), 4);
        due(12, "no hand was made", mud.count(2), 0);
    }

    private static void at() {
        LeavesOfMud mud = new LeavesOfMud();
        row(mud, 0, "h1 l1 w1 n1 f1.3 a1.7 s1.9 h1");
        int[] plain = {0, 0, 1, 2, 3, 6, 7, 7, 8};
        for (int leaf = 0; leaf <= 8; leaf++) {
            due(13, "plain at " + leaf, mud.at(NONE, 0, leaf), plain[leaf]);
        }
        handOf(mud, "h9,l0,w1,n3,f5,a7,s8");
        int[] told = {0, 4, 4, 5, 6, 9, 12, 16, 21};
        for (int leaf = 0; leaf <= 8; leaf++) {
            due(13, "told at " + leaf, mud.at(0, 0, leaf), told[leaf]);
        }
        handOf(mud, "s3,w5");
        // a FLOOD is still twice n, an ASH still 2: only a leaf of that very kind is told of
        int[] own = {0, 0, 1, 4, 5, 8, 9, 10, 11};
        for (int leaf = 0; leaf <= 8; leaf++) {
            due(13, "own at " + leaf, mud.at(1, 0, leaf), own[leaf]);
        }
        due(13, "no hand", mud.at(2, 0, 0), UNKNOWN);
        due(13, "hand below", mud.at(-2, 0, 0), UNKNOWN);
        due(13, "no pit", mud.at(NONE, 1, 0), UNKNOWN);
        due(13, "no leaf", mud.at(NONE, 0, 9), UNKNOWN);
        due(13, "leaf below", mud.at(NONE, 0, -1), UNKNOWN);
        mud.pit(3);
        due(13, "an empty pit ends at 0", mud.at(NONE, 1, 0), 0);
    }

    private static void yearsAndLean() {
        LeavesOfMud mud = new LeavesOfMud();
        row(mud, 0, "h1 l1");
        row(mud, 0, "h1 h1 h1");
        handOf(mud, "h2");
        handOf(mud, "l0,h0");
        due(14, "3 halves", mud.years(NONE, 0), 2);
        due(14, "3 halves", mud.years(NONE, 1), 2);
        due(14, "4 halves", mud.years(0, 0), 2);
        due(14, "6 halves", mud.years(0, 1), 3);
        due(14, "0 halves", mud.years(1, 0), 0);
        due(14, "no hand", mud.years(2, 0), UNKNOWN);
        due(14, "hand below", mud.years(-2, 0), UNKNOWN);
        due(14, "no pit", mud.years(0, 2), UNKNOWN);
        due(14, "pit below", mud.years(0, -1), UNKNOWN);
        due(15, "plain less first", mud.lean(NONE, 0), -1);
        due(15, "first less plain", mud.lean(0, NONE), 1);
        due(15, "first less second", mud.lean(0, 1), 5);
        due(15, "the same", mud.lean(1, 1), 0);
        due(15, "no hand", mud.lean(2, 0), WIDE_UNKNOWN);
        due(15, "no other", mud.lean(0, 2), WIDE_UNKNOWN);
        due(15, "hand below", mud.lean(-2, 0), WIDE_UNKNOWN);
        due(15, "without pits", new LeavesOfMud().lean(NONE, NONE), 0);
    }

    /** Steps 0, 1, 1, -1 and 0, 1, -1. */
    private static LeavesOfMud twoStrips() {
        LeavesOfMud mud = new LeavesOfMud();
        row(mud, 0, "l1 l2 l3 l2");
        row(mud, 0, "l5 l6 l5");
        mud.pit(0);
        return mud;
    }

    private static void likeAndOver() {
        LeavesOfMud mud = twoStrips();
        int[] over = {0, 1, 2, 3, 3, 2, 1, 0};
        int[] like = {WIDE_NONE, 0, -1, 0, 2, -1, 0, WIDE_NONE};
        for (int k = -3; k <= 4; k++) {
            due(17, "over " + k, mud.over(0, 1, k), over[k + 3]);
            due(16, "like " + k, mud.like(0, 1, k), like[k + 3]);
        }
        due(16, "with itself", mud.like(0, 0, 0), 3);
        due(17, "with itself", mud.over(0, 0, -15), 0);
        due(16, "with an empty one", mud.like(0, 2, 0), WIDE_NONE);
        due(17, "with an empty one", mud.over(2, 0, 0), 0);
        due(16, "k above", mud.like(0, 1, 16), WIDE_OUTSIDE);
        due(16, "k below", mud.like(0, 1, -16), WIDE_OUTSIDE);
        due(16, "15 is a slide", mud.like(0, 1, 15), WIDE_NONE);
        due(16, "no pit", mud.like(3, 1, 16), WIDE_UNKNOWN);
        due(16, "no pit", mud.like(1, 3, 0), WIDE_UNKNOWN);
        due(17, "k above", mud.over(0, 1, 16), OUTSIDE);
        due(17, "k below", mud.over(0, 1, MIN), OUTSIDE);
        due(17, "no pit", mud.over(0, 3, 16), UNKNOWN);
        due(17, "no pit", mud.over(-1, 0, 0), UNKNOWN);
        LeavesOfMud ashes = new LeavesOfMud();
        row(ashes, 0, "a4.1 a4.2 w4.2 l4.2");
        row(ashes, 0, "a4.1 a4.3 a4.2 a4.2");
        due(16, "one n, unlike ones, no ashes", ashes.like(0, 1, 0), 0);
        due(16, "one n", ashes.like(0, 1, -1), -5 + 5);
        due(16, "unlike n", ashes.like(0, 1, 1), -5);
        due(16, "with itself", ashes.like(0, 0, 0), 10);
    }

    private static void slide() {
        LeavesOfMud mud = twoStrips();
        due(18, "the greatest", mud.slide(0, 1, 1), 1);
        due(18, "three over", mud.slide(0, 1, 3), 1);
        due(18, "four over", mud.slide(0, 1, 4), WIDE_NONE);
        due(18, "turned round", mud.slide(1, 0, 1), -1);
        due(18, "m below", mud.slide(0, 1, 0), WIDE_OUTSIDE);
        due(18, "m of 16", mud.slide(0, 1, 16), WIDE_NONE);
        due(18, "m above", mud.slide(0, 1, 17), WIDE_OUTSIDE);
        due(18, "no pit", mud.slide(3, 0, 0), WIDE_UNKNOWN);
        due(18, "no pit", mud.slide(0, -1, 1), WIDE_UNKNOWN);
        due(18, "an empty one", mud.slide(0, 2, 1), WIDE_NONE);
        LeavesOfMud like = new LeavesOfMud();
        row(like, 0, "a4.1 l4 a4.1");
        row(like, 0, "l4 a4.1 l4");
        row(like, 0, "l4 l4 l4");
        due(18, "of like ones the one below 0", like.slide(0, 1, 1), -1);
        due(18, "of like ones that of least size", like.slide(0, 2, 1), 0);
        LeavesOfMud far = new LeavesOfMud();
        row(far, 0, "a4.1 l4 l4 l4 l4 l4 l4 l4 l4 l4 l4 l4 l4 l4 l4 l4");
        row(far, 0, "l4 l4 l4 l4 l4 l4 l4 l4 l4 l4 l4 l4 l4 l4 l4 a4.1");
        due(18, "as far as can be, below", far.slide(0, 1, 1), -15);
        due(18, "as far as can be, above", far.slide(1, 0, 1), 15);
        due(18, "not with so many over", far.slide(0, 1, 2), 0);
    }

    private static void chance() {
        LeavesOfMud mud = twoStrips();
        due(19, "1 of 3", mud.chance(0, 1, 1, 0), 1);
        due(19, "1 of 3", mud.chance(0, 1, 1, 1), 3);
        due(19, "2 of 3", mud.chance(0, 1, 0, 0), 2);
        due(19, "2 of 3", mud.chance(0, 1, 0, 1), 3);
        due(19, "3 of 3", mud.chance(0, 1, 3, 0), 1);
        due(19, "3 of 3", mud.chance(0, 1, 3, 1), 1);
        due(19, "none over", mud.chance(0, 1, 4, 0), STATE);
        due(19, "an empty one", mud.chance(0, 2, 0, 0), STATE);
        due(19, "k", mud.chance(0, 1, 16, 0), OUTSIDE);
        due(19, "part", mud.chance(0, 1, 4, 2), OUTSIDE);
        due(19, "part below", mud.chance(0, 1, 0, -1), OUTSIDE);
        due(19, "no pit", mud.chance(0, 3, 16, 0), UNKNOWN);
        due(19, "no pit", mud.chance(MAX, 0, 0, 0), UNKNOWN);
        LeavesOfMud half = new LeavesOfMud();
        row(half, 0, "l1 l2");
        row(half, 0, "l5 l6 l5 l6");
        due(19, "2 of 4, in lowest terms", half.chance(0, 1, 0, 0), 1);
        due(19, "2 of 4, in lowest terms", half.chance(0, 1, 0, 1), 2);
    }

    /** The least price of two pits of a leaf or two each. */
    private static int least(String law, String a, String b) {
        LeavesOfMud mud = new LeavesOfMud();
        row(mud, 0, a);
        row(mud, 0, b);
        lawOf(mud, law);
        return mud.together(0, 0, 1, 0);
    }

    private static void togetherPrices() {
        due(20, "both empty", least("l9", "", ""), 0);
        due(20, "one empty", least("l7", "l1 l2", ""), 14);
        due(20, "one empty", least("l7", "", "l1 l2 l3"), 21);
        due(20, "unlike", least("l9", "l10", "l15"), 5);
        due(20, "unlike, told", least("u3", "l10", "l15"), 15);
        due(20, "unlike is 1, if not told", least("d0", "l10", "l16"), 6);
        due(20, "lost is 9, if not told", least("d0", "l1", "l99"), 18);
        due(20, "doubled is 3, if not told", least("l99", "l10", "l4 l6"), 3);
        due(20, "doubled, told", least("l99,d77", "l4 l6", "l10"), 77);
        due(20, "doubled, and unlike", least("l99,d5,u2", "l4 l9", "l10"), 11);
        due(20, "doubled, and unlike, the one thicker", least("l99,d5,u2", "l20", "l4 l9"), 19);
        due(20, "ash on ash of one n", least("l99", "a5.1", "a7.1"), 2);
        due(20, "ash on ash of unlike n is 40, if not told", least("l99", "a5.1", "a7.2"), 42);
        due(20, "ash on none", least("l99,a33", "a5.1", "l5.1"), 33);
        due(20, "none on ash", least("l99,a33", "w5.1", "a5.1"), 33);
        due(20, "three ashes doubled", least("l99,a10", "a5.1", "a2.1 a3.1"), 33);
        due(20, "two ashes doubled", least("l99,a10", "a2.1 l3.1", "a5.1"), 23);
        due(20, "one ash doubled", least("l99,a10", "l5.1", "l2 a3.1"), 13);
        due(20, "no price below 0", least("l0,d0,u0,a0", "a5.1", "l2 a3.1"), 0);
    }

    private static void togetherWays() {
        LeavesOfMud mud = new LeavesOfMud();
        row(mud, 0, "l10 l20");
        row(mud, 0, "l10 l5 l15");
        row(mud, 0, "l10");
        row(mud, 0, "l99");
        mud.pit(0);
        lawOf(mud, "l9");
        int[] told = {3, 1, 2};
        for (int what = 0; what <= 2; what++) {
            due(20, "what " + what, mud.together(0, 0, 1, what), told[what]);
        }
        due(20, "step 0", mud.together(0, 0, 1, 10), 0);
        due(20, "step 1", mud.together(0, 0, 1, 11), 3);
        due(20, "no step 2", mud.together(0, 0, 1, 12), NONE);
        due(20, "no step 31", mud.together(0, 0, 1, 41), NONE);
        due(20, "turned round", mud.together(0, 1, 0, 11), 4);
        due(20, "lost both ways", mud.together(0, 2, 3, 1), 2);
        due(20, "the first alone is told by less", mud.together(0, 2, 3, 10), 1);
        due(20, "then the second", mud.together(0, 2, 3, 11), 2);
        due(20, "with itself", mud.together(0, 0, 0, 0), 0);
        due(20, "one way for nothing", mud.together(0, 4, 4, 1), 1);
        due(20, "without steps", mud.together(0, 4, 4, 2), 0);
        due(20, "no first step", mud.together(0, 4, 4, 10), NONE);
        for (int what : new int[] {-1, 3, 9, 42, MAX, MIN}) {
            due(20, "what " + what, mud.together(0, 0, 1, what), OUTSIDE);
        }
        due(20, "no law", mud.together(1, 0, 1, 3), UNKNOWN);
        due(20, "no plain law", mud.together(NONE, 0, 1, 0), UNKNOWN);
        due(20, "no pit", mud.together(0, 5, 1, 3), UNKNOWN);
        due(20, "no pit", mud.together(0, 1, -1, 0), UNKNOWN);
        LeavesOfMud many = new LeavesOfMud();
        row(many, 0, "l9 l9 l9");
        row(many, 0, "l9 l9 l9 l9");
        row(many, 0, "l9 l9 l9 l9 l9 l9 l9 l9 l9 l9 l9 l9 l9 l9 l9 l9");
        lawOf(many, "l9,u0,d99");
        lawOf(many, "l0,d0,u0,a0");
        due(20, "one of four is lost", many.together(0, 0, 1, 1), 4);
        due(20, "the last one", many.together(0, 0, 1, 13), 2);
        due(20, "999999999 ways at most", many.together(1, 2, 2, 1), 999999999);
        lawOf(many, "l0,u99,d99,a99");
        many.pit(0);
        many.leaf(3, LEAF, 1, 0);
        due(20, "32 steps at most", many.together(2, 2, 3, 2), 17);
        due(20, "the leaf of the second comes last", many.together(2, 2, 3, 10 + 16), 2);
        LeavesOfMud apart = new LeavesOfMud();
        row(apart, 0, "l1 l1 l1 l1 l1 l1 l1 l1 l1 l1 l1 l1 l1 l1 l1 l1");
        row(apart, 0, "l99 l99 l99 l99 l99 l99 l99 l99 l99 l99 l99 l99 l99 l99 l99 l99");
        lawOf(apart, "l0");
        due(20, "32 steps", apart.together(0, 0, 1, 2), 32);
        due(20, "the 16th", apart.together(0, 0, 1, 25), 1);
        due(20, "the 17th", apart.together(0, 0, 1, 26), 2);
        due(20, "the 32nd", apart.together(0, 0, 1, 41), 2);
        due(20, "32 over 16 ways", apart.together(0, 0, 1, 1), 601080390);
    }

    private static void liesAndSure() {
        LeavesOfMud mud = new LeavesOfMud();
        row(mud, 0, "l10 l20");
        row(mud, 0, "l10 l5 l15");
        row(mud, 0, "l10 l60 l20");
        lawOf(mud, "l9");
        due(21, "one on one", mud.lies(0, 0, 1, 0), 0);
        due(21, "on two: the lesser", mud.lies(0, 0, 1, 1), 1);
        due(21, "two on one", mud.lies(0, 1, 0, 1), 1);
        due(21, "two on one", mud.lies(0, 1, 0, 2), 1);
        due(21, "alone", mud.lies(0, 2, 0, 1), NONE);
        due(21, "behind one alone", mud.lies(0, 2, 0, 2), 1);
        due(21, "no law", mud.lies(1, 0, 1, 0), UNKNOWN);
        due(21, "no plain law", mud.lies(NONE, 0, 1, 0), UNKNOWN);
        due(21, "no pit", mud.lies(0, 3, 1, 0), UNKNOWN);
        due(21, "no second pit", mud.lies(0, 0, 3, 0), UNKNOWN);
        due(21, "no leaf of the first", mud.lies(0, 0, 1, 2), UNKNOWN);
        due(21, "leaf below", mud.lies(0, 0, 1, -1), UNKNOWN);
        // without it: 10 on 10 and 5, for 3 and 5, then 20 on 15 for 5: 13 in all, less 3
        due(22, "one on one", mud.sure(0, 0, 1, 0), 10);
        due(22, "on two", mud.sure(0, 0, 1, 1), NONE);
        due(22, "two on one", mud.sure(0, 1, 0, 2), NONE);
        due(22, "alone", mud.sure(0, 2, 0, 1), NONE);
        due(22, "done four times", mud.count(8), 4);
        due(22, "no law", mud.sure(1, 0, 1, 0), UNKNOWN);
        due(22, "no pit", mud.sure(0, 3, 1, 0), UNKNOWN);
        due(22, "no second pit", mud.sure(0, 0, -1, 0), UNKNOWN);
        due(22, "no leaf of the first", mud.sure(0, 0, 1, 2), UNKNOWN);
        due(22, "what is refused is not done", mud.count(8), 4);
        LeavesOfMud like = new LeavesOfMud();
        row(like, 0, "l5");
        row(like, 0, "l5 l5");
        lawOf(like, "l4");
        due(22, "as cheap without", like.sure(0, 0, 1, 0), 0);
        due(22, "one on one alone: lost twice without", like.sure(0, 0, 0, 0), 8);
    }

    private static void sureOftenDone() {
        LeavesOfMud mud = new LeavesOfMud();
        row(mud, 0, "l5 l50");
        row(mud, 0, "l5");
        lawOf(mud, "l4");
        for (int i = 0; i < 50; i++) {
            due(22, "time " + 2 * i, mud.sure(0, 0, 1, 0), 8);
            due(22, "time " + (2 * i + 1), mud.sure(0, 0, 1, 1), NONE);
        }
        due(22, "100 times", mud.count(8), 100);
        due(22, "the 101st", mud.sure(0, 0, 1, 0), STATE);
        due(22, "UNKNOWN is ahead", mud.sure(0, 0, 1, 2), UNKNOWN);
        due(22, "still 100 times", mud.count(8), 100);
    }

    private static void join() {
        LeavesOfMud mud = new LeavesOfMud();
        mud.pit(0);
        mud.pit(0);
        due(23, "no pit", mud.join(2, 0, 5, 2, 0), UNKNOWN);
        due(23, "no pit", mud.join(0, -1, 0, 0, 0), UNKNOWN);
        due(23, "the same", mud.join(1, 1, 0, 0, 100), UNKNOWN);
        due(23, "low", mud.join(0, 1, -1000, 0, 0), OUTSIDE);
        due(23, "high", mud.join(0, 1, 0, 1000, 0), OUTSIDE);
        due(23, "high below low", mud.join(0, 1, 1, 0, 0), OUTSIDE);
        due(23, "doubt below", mud.join(0, 1, 0, 0, -1), OUTSIDE);
        due(23, "doubt above", mud.join(0, 1, 0, 0, 100), OUTSIDE);
        due(23, "none was made", mud.count(4), 0);
        due(23, "widest", mud.join(0, 1, -999, 999, 99), 0);
        due(23, "narrow", mud.join(1, 0, 999, 999, 0), 1);
        due(23, "turned round", mud.span(0, 1, 1), -999);
        for (int i = 2; i < 12; i++) {
            due(23, "join " + i, mud.join(0, 1, -999, 999, 0), i);
        }
        due(23, "the 13th", mud.join(0, 1, 0, 0, 0), FULL);
        due(23, "OUTSIDE is ahead of FULL", mud.join(0, 1, 0, 0, 100), OUTSIDE);
        due(23, "kept", mud.count(5), 12);
    }

    private static void keep() {
        LeavesOfMud mud = new LeavesOfMud();
        mud.pit(0);
        mud.pit(0);
        mud.join(0, 1, 1, 1, 0);
        mud.join(0, 1, 2, 2, 0);
        due(24, "no join", mud.keep(2, true), UNKNOWN);
        due(24, "join below", mud.keep(-1, true), UNKNOWN);
        due(24, "kept", mud.keep(0, false), 1);
        due(24, "thrown out", mud.keep(0, false), 0);
        due(24, "one is kept", mud.count(5), 1);
        due(24, "the other tells", mud.span(0, 1, 0), 2);
        due(24, "thrown out", mud.keep(0, true), 0);
        due(24, "kept", mud.keep(0, true), 1);
        due(24, "both", mud.closes(), 0);
    }

    private static void ties() {
        LeavesOfMud mud = new LeavesOfMud();
        mud.pit(0);
        mud.leaf(0, 0, 1, 0);
        due(25, "no pit", mud.tie(1, 2, 1), UNKNOWN);
        due(25, "low", mud.tie(0, -10000, 0), OUTSIDE);
        due(25, "high", mud.tie(0, 0, 10000), OUTSIDE);
        due(25, "high below low", mud.tie(0, 1, 0), OUTSIDE);
        due(25, "none was made", mud.count(6), 0);
        due(26, "none was there", mud.untie(0), 0);
        due(25, "widest", mud.tie(0, -9999, 9999), 0);
        due(25, "least", mud.date(0, 0, 0), -9999);
        due(25, "greatest", mud.date(0, 0, 1), 9999);
        due(25, "the last one told", mud.tie(0, 5, 5), 1);
        due(25, "is the one", mud.date(0, 0, 0), 5);
        due(25, "one tie", mud.count(6), 1);
        due(26, "no pit", mud.untie(1), UNKNOWN);
        due(26, "pit below", mud.untie(-1), UNKNOWN);
        due(26, "it was there", mud.untie(0), 1);
        due(26, "gone", mud.count(6), 0);
        due(26, "gone", mud.date(0, 0, 0), WIDE_NONE);
    }

    private static void ashes() {
        LeavesOfMud mud = new LeavesOfMud();
        row(mud, 0, "l1 a1.4 l1 a1.4");
        row(mud, 0, "h1 h1 h1 l1 a1.4");
        row(mud, 0, "l1 w1.4 a1.5");
        due(27, "looked at: AT 1 less AT 2", mud.span(0, 1, 0), -1);
        due(27, "looked at", mud.span(0, 1, 1), -1);
        due(27, "a warm leaf is no ash", mud.span(0, 2, 0), WIDE_NONE);
        due(27, "they were", mud.ashes(false), 1);
        due(27, "not looked at", mud.span(0, 1, 0), WIDE_NONE);
        due(27, "they were not", mud.ashes(false), 0);
        due(27, "they were not", mud.ashes(true), 0);
        due(27, "looked at again", mud.span(1, 0, 0), 1);
    }

    private static void closes() {
        LeavesOfMud mud = new LeavesOfMud();
        row(mud, 0, "a1.1 l1 a1.2");
        row(mud, 0, "a1.1 l1 l1 a1.2");
        due(28, "two ashes further apart there", mud.closes(), 0);
        mud.change(0, 1, FLOOD, 9, 2);
        due(28, "as far here", mud.closes(), 1);
        mud.tie(0, 10, 20);
        mud.tie(1, 21, 30);
        due(28, "ties too far apart", mud.closes(), 0);
        mud.tie(1, 20, 30);
        due(28, "ties that touch", mud.closes(), 1);
        mud.pit(0);
        mud.join(0, 2, 1, 2, 0);
        mud.join(2, 1, -3, -2, 0);
        due(28, "round by joins: -2 to 0", mud.closes(), 1);
        mud.join(1, 2, 0, 0, 0);
        due(28, "a join too much", mud.closes(), 0);
        mud.keep(2, false);
        due(28, "thrown out", mud.closes(), 1);
    }

    /** Joins of three pits round, a fourth that floats: spans 5 to 9, 4 to 6, -3 to 1. */
    private static LeavesOfMud threeJoined() {
        LeavesOfMud mud = new LeavesOfMud();
        row(mud, 0, "l1 l1 h1 l1");
        row(mud, 30, "l1");
        row(mud, 30, "l1");
        row(mud, 90, "l1");
        mud.join(0, 1, 5, 10, 30);
        mud.join(1, 2, -3, 4, 20);
        mud.join(0, 2, 4, 6, 10);
        return mud;
    }

    private static void span() {
        LeavesOfMud mud = threeJoined();
        int[][] told = {{0, 1, 5, 9}, {1, 0, -9, -5}, {0, 2, 4, 6}, {1, 2, -3, 1}, {2, 1, -1, 3}, {1, 1, 0, 0}};
        for (int[] one : told) {
            due(29, "least of " + one[0] + ", " + one[1], mud.span(one[0], one[1], 0), one[2]);
            due(29, "greatest of " + one[0] + ", " + one[1], mud.span(one[0], one[1], 1), one[3]);
        }
        due(29, "floating", mud.span(0, 3, 0), WIDE_NONE);
        due(29, "floating", mud.span(3, 2, 1), WIDE_NONE);
        due(29, "a floating one with itself", mud.span(3, 3, 1), 0);
        due(29, "end", mud.span(0, 3, 2), WIDE_OUTSIDE);
        due(29, "end below", mud.span(0, 1, -1), WIDE_OUTSIDE);
        due(29, "no pit", mud.span(4, 0, 2), WIDE_UNKNOWN);
        due(29, "no pit", mud.span(0, -1, 0), WIDE_UNKNOWN);
        mud.tie(0, 200, 202);
        mud.tie(3, 100, 110);
        due(29, "by two ties", mud.span(0, 3, 0), -102);
        due(29, "by two ties", mud.span(2, 3, 1), 110 - 204);
        mud.join(0, 1, 10, 10, 0);
        due(29, "it does not close", mud.span(0, 1, 0), WIDE_STATE);
        due(29, "not even with itself", mud.span(0, 0, 0), WIDE_STATE);
        due(29, "OUTSIDE is ahead of STATE", mud.span(0, 1, 2), WIDE_OUTSIDE);
    }

    private static void date() {
        LeavesOfMud mud = threeJoined();
        due(30, "on no tie", mud.date(0, 0, 0), WIDE_NONE);
        mud.tie(1, -100, -90);
        due(30, "least of the bottom", mud.date(0, 0, 0), -109);
        due(30, "greatest of the bottom", mud.date(0, 0, 1), -95);
        due(30, "leaf 2", mud.date(0, 2, 0), -107);
        due(30, "leaf 3 begins in a half year", mud.date(0, 3, 1), -93);
        due(30, "a floating one", mud.date(3, 0, 0), WIDE_NONE);
        due(30, "no pit", mud.date(4, 0, 2), WIDE_UNKNOWN);
        due(30, "no leaf", mud.date(0, 4, 0), WIDE_UNKNOWN);
        due(30, "leaf below", mud.date(0, -1, 0), WIDE_UNKNOWN);
        due(30, "end", mud.date(3, 0, 2), WIDE_OUTSIDE);
        due(30, "end below", mud.date(0, 0, -1), WIDE_OUTSIDE);
        mud.join(0, 1, 10, 10, 0);
        due(30, "it does not close", mud.date(3, 0, 0), WIDE_STATE);
        due(30, "OUTSIDE is ahead of STATE", mud.date(0, 0, 2), WIDE_OUTSIDE);
    }

    private static void calendars() {
        LeavesOfMud mud = new LeavesOfMud();
        due(31, "no pits", mud.calendars(0), 0);
        due(31, "no pits", mud.calendars(1), 0);
        due(31, "what", mud.calendars(2), OUTSIDE);
        due(31, "what below", mud.calendars(-1), OUTSIDE);
        row(mud, 0, "a1.1");
        row(mud, 0, "a1.2");
        row(mud, 0, "a1.1");
        row(mud, 0, "a1.3");
        due(31, "one ash", mud.calendars(0), 3);
        due(31, "of pit 0", mud.calendars(1), 5);
        mud.ashes(false);
        due(31, "not looked at", mud.calendars(0), 4);
        due(31, "of pit 0", mud.calendars(1), 1);
        mud.join(3, 2, 0, 0, 0);
        mud.join(2, 0, 0, 0, 0);
        due(31, "by joins", mud.calendars(0), 2);
        due(31, "of pit 0", mud.calendars(1), 13);
        mud.keep(0, false);
        due(31, "one is thrown out", mud.calendars(0), 3);
        mud.tie(3, 0, 0);
        due(31, "one tie hangs on nothing", mud.calendars(0), 3);
        mud.tie(0, 1, 1);
        due(31, "two ties hang together", mud.calendars(0), 2);
        due(31, "of pit 0", mud.calendars(1), 13);
        mud.tie(2, 99, 99);
        due(31, "it does not close", mud.closes(), 0);
        due(31, "and hangs together all the same", mud.calendars(0), 2);
    }

    private static void castOut() {
        LeavesOfMud mud = new LeavesOfMud();
        due(32, "nothing", mud.castOut(), 0);
        mud.pit(0);
        mud.pit(0);
        mud.pit(0);
        mud.join(0, 1, 0, 0, 5);
        due(32, "it closes", mud.castOut(), 0);
        mud.join(0, 1, 1, 1, 9);
        due(32, "that of most doubt", mud.castOut(), 2);
        mud.join(0, 1, 1, 2, 99);
        due(32, "one is fewer than two", mud.castOut(), 1);
        mud.keep(0, false);
        due(32, "what is thrown out is not cast", mud.castOut(), 0);
        mud.keep(0, true);
        mud.keep(2, false);
        mud.join(1, 2, 5, 6, 9);
        mud.join(2, 1, 5, 6, 9);
        due(32, "of like ones the least bits", mud.castOut(), 2 + 8);
        mud.tie(0, 0, 0);
        mud.tie(1, 1, 1);
        due(32, "ties stay", mud.castOut(), 1 + 8);
        mud.tie(1, 2, 2);
        due(32, "both must go", mud.castOut(), 3 + 8);
        LeavesOfMud never = new LeavesOfMud();
        row(never, 0, "a1.1 a1.2");
        row(never, 0, "a1.2 a1.1");
        never.join(0, 1, 0, 0, 5);
        due(32, "not even without all", never.castOut(), NONE);
        never.ashes(false);
        due(32, "not looked at", never.castOut(), 0);
        LeavesOfMud all = new LeavesOfMud();
        all.pit(0);
        all.pit(0);
        for (int i = 0; i < 12; i++) {
            all.join(0, 1, i, i, 50 - i);
        }
        due(32, "all but the one of least doubt", all.castOut(), 2047);
        all.tie(0, 0, 0);
        all.tie(1, 99, 99);
        due(32, "all twelve", all.castOut(), 4095);
        LeavesOfMud cross = new LeavesOfMud();
        cross.pit(0);
        cross.pit(0);
        cross.join(0, 1, 0, 0, 7);
        cross.join(0, 1, 5, 5, 6);
        cross.join(0, 1, 5, 5, 8);
        cross.join(0, 1, 0, 0, 7);
        due(32, "6 is less than 9", cross.castOut(), 6);
    }

    private static void hangs() {
        LeavesOfMud mud = threeJoined();
        due(33, "each join counts", mud.hangs(0, 1), 7);
        due(33, "one alone", mud.hangs(0, 2), 4);
        due(33, "the other way", mud.hangs(2, 0), 4);
        due(33, "with itself", mud.hangs(1, 1), 0);
        due(33, "floating", mud.hangs(0, 3), STATE);
        mud.keep(1, false);
        due(33, "a chain that would float", mud.hangs(1, 2), 5);
        due(33, "no pit", mud.hangs(0, 4), UNKNOWN);
        due(33, "pit below", mud.hangs(-1, 0), UNKNOWN);
        mud.join(0, 1, 5, 10, 0);
        due(33, "told twice: none alone", mud.hangs(0, 1), 0);
        mud.join(0, 1, 20, 20, 0);
        due(33, "it does not close", mud.hangs(0, 1), STATE);
        due(33, "UNKNOWN is ahead of STATE", mud.hangs(0, 4), UNKNOWN);
    }

    private static void dig() {
        LeavesOfMud mud = threeJoined();
        due(34, "a", mud.dig(0), 0);
        due(34, "b", mud.dig(1), 1);
        due(34, "the worst", mud.dig(2), 4);
        due(34, "what", mud.dig(3), OUTSIDE);
        due(34, "what below", mud.dig(-1), OUTSIDE);
        due(34, "done", mud.count(9), 3);
        mud.join(0, 1, 40, 40, 0);
        due(34, "it does not close", mud.dig(0), STATE);
        due(34, "OUTSIDE is ahead of STATE", mud.dig(3), OUTSIDE);
        due(34, "still three times", mud.count(9), 3);
        LeavesOfMud wide = new LeavesOfMud();
        wide.pit(0);
        wide.pit(0);
        wide.pit(0);
        wide.join(0, 1, 7, 7, 0);
        due(34, "width 0", wide.dig(0), NONE);
        wide.join(1, 2, 0, 41, 0);
        due(34, "width 41", wide.dig(2), NONE);
        wide.join(1, 2, 1, 50, 0);
        due(34, "width 40: (0, 2) is as good as (1, 2)", wide.dig(1), 2);
        due(34, "width 40", wide.dig(0), 0);
        due(34, "all is known then", wide.dig(2), 0);
        LeavesOfMud apart = new LeavesOfMud();
        apart.pit(0);
        apart.pit(0);
        apart.pit(0);
        apart.pit(0);
        apart.join(0, 1, 0, 3, 0);
        apart.join(2, 3, -9, 9, 0);
        due(34, "what would be left of the other", apart.dig(2), 3);
        due(34, "the wider one", apart.dig(0), 2);
        LeavesOfMud top = new LeavesOfMud();
        top.pit(0);
        top.pit(0);
        top.pit(0);
        top.join(0, 1, 0, 40, 0);
        top.join(0, 2, 0, 100, 0);
        top.join(1, 2, -200, 0, 0);
        due(34, "the worst is the last of 41 that may be found", top.dig(2), 80);
        LeavesOfMud narrow = new LeavesOfMud();
        narrow.pit(0);
        narrow.pit(0);
        narrow.join(1, 0, 3, 4, 0);
        due(34, "width 1", narrow.dig(2), 0);
        due(34, "width 1", narrow.dig(1), 1);
    }

    private static void digOftenDone() {
        LeavesOfMud mud = new LeavesOfMud();
        for (int i = 0; i < 8; i++) {
            due(34, "time " + i, mud.dig(i % 3), NONE);
        }
        due(34, "the ninth", mud.dig(0), STATE);
        due(34, "OUTSIDE is ahead", mud.dig(3), OUTSIDE);
        due(34, "done", mud.count(9), 8);
    }

    private static void pace() {
        LeavesOfMud mud = threeJoined();
        due(35, "least: 30 by 9", mud.pace(0, 1, 0, 0), 10);
        due(35, "least: 30 by 9", mud.pace(0, 1, 0, 1), 3);
        due(35, "most: 30 by 5", mud.pace(0, 1, 1, 0), 6);
        due(35, "most: 30 by 5", mud.pace(0, 1, 1, 1), 1);
        due(35, "the other way", mud.pace(1, 0, 0, 0), 10);
        due(35, "the other way", mud.pace(1, 0, 1, 1), 1);
        due(35, "like miles", mud.pace(1, 2, 0, 0), STATE);
        due(35, "with itself", mud.pace(1, 1, 0, 0), STATE);
        mud.pit(31);
        mud.join(0, 4, 100, 100, 0);
        mud.join(1, 4, -7, 200, 0);
        due(35, "1 mile by 95", mud.pace(1, 4, 0, 0), 1);
        due(35, "1 mile by 95", mud.pace(4, 1, 0, 1), 95);
        mud.keep(3, false);
        mud.keep(4, false);
        due(35, "floating", mud.pace(0, 3, 0, 0), STATE);
        due(35, "end", mud.pace(1, 2, 2, 0), OUTSIDE);
        due(35, "part", mud.pace(1, 2, 0, 2), OUTSIDE);
        due(35, "end below", mud.pace(0, 1, -1, 0), OUTSIDE);
        due(35, "part below", mud.pace(0, 1, 0, -1), OUTSIDE);
        due(35, "no pit", mud.pace(5, 0, 2, 0), UNKNOWN);
        due(35, "no pit", mud.pace(0, -1, 0, 0), UNKNOWN);
        mud.join(0, 3, -1, 7, 0);
        due(35, "0 within", mud.pace(0, 3, 0, 0), STATE);
        mud.join(0, 3, 0, 7, 0);
        due(35, "0 at the end is within", mud.pace(0, 3, 0, 0), STATE);
        due(35, "0 at the other end, too", mud.pace(3, 0, 0, 0), STATE);
        mud.join(0, 3, 1, 7, 0);
        due(35, "90 by 7", mud.pace(0, 3, 0, 1), 7);
        due(35, "90 by 1", mud.pace(3, 0, 1, 0), 90);
        mud.join(0, 3, 8, 8, 0);
        due(35, "it does not close", mud.pace(0, 1, 0, 0), STATE);
    }

    private static void took() {
        LeavesOfMud mud = new LeavesOfMud();
        row(mud, 0, "a1.9 l1 a1.1 l1 f1.3 h1 h1 a1.2 a1.8 f1.1");
        row(mud, 0, "l1 a1.1 l1 l1 l1 l1 l1 a1.2");
        row(mud, 0, "a1.9 l1 l1 l1 l1 l1 l1 l1 l1 l1 a1.8");
        // here 1 and 2 are 3 years apart without the flood, 9 and 8 are 6: there 6, and 10
        due(36, "least", mud.took(0, 4, 0), 3);
        due(36, "greatest", mud.took(0, 4, 1), 4);
        due(36, "none behind it", mud.took(0, 9, 0), NONE);
        due(36, "no flood", mud.took(0, 3, 0), STATE);
        due(36, "end", mud.took(0, 3, 2), OUTSIDE);
        due(36, "end below", mud.took(0, 4, -1), OUTSIDE);
        due(36, "no pit", mud.took(3, 0, 2), UNKNOWN);
        due(36, "no leaf", mud.took(0, 10, 0), UNKNOWN);
        due(36, "leaf NONE", mud.took(0, NONE, 0), UNKNOWN);
        mud.change(1, 4, FLOOD, 1, 9);
        due(36, "a flood between there", mud.took(0, 4, 0), 4);
        mud.change(1, 4, SLUMP, 1, 9);
        due(36, "a slump there counts for nothing", mud.took(0, 4, 0), 2);
        mud.change(2, 9, ASH, 1, 8);
        due(36, "the first one of that n there: 9", mud.took(0, 4, 1), 3);
        mud.change(1, 2, ASH, 1, 2);
        due(36, "1 year there, 3 here: 0 at least", mud.took(0, 4, 0), 0);
        mud.change(1, 0, ASH, 1, 2);
        due(36, "the other way round there", mud.took(0, 4, 0), 3);
        LeavesOfMud near = new LeavesOfMud();
        row(near, 0, "a1.1 l1 a1.3 f1.2 a1.4 l1 a1.2");
        row(near, 0, "a1.3 l1 l1 l1 a1.4 a1.1 l1 l1 l1 l1 l1 l1 a1.2");
        due(36, "the nearest ones: 4 there, 1 here", near.took(0, 3, 0), 3);
        LeavesOfMud same = new LeavesOfMud();
        row(same, 0, "a1.1 f1.2 a1.1");
        row(same, 0, "a1.1 l1 l1 a1.1");
        due(36, "one n: the first one there is one", same.took(0, 1, 0), NONE);
        LeavesOfMud full = new LeavesOfMud();
        row(full, 0, "a1.1 l1 l1 l1 l1 l1 l1 l1 l1 l1 l1 l1 l1 l1 l1 f1.2");
        row(full, 0, "a1.2");
        row(full, 0, "a1.1 l1 l1 a1.2");
        due(36, "the next pit's leaves are not behind it", full.took(0, 15, 0), NONE);
        LeavesOfMud alone = new LeavesOfMud();
        row(alone, 0, "a1.1 f1.2 a1.2");
        due(36, "no other pit", alone.took(0, 1, 1), NONE);
    }

    private static void image() {
        LeavesOfMud mud = threeJoined();
        mud.tie(2, 3, 4);
        due(38, "none was kept", mud.restore(), STATE);
        long before = mud.digest();
        due(37, "four pits", mud.image(), 4);
        mud.pit(9);
        mud.leaf(0, ASH, 9, 9);
        mud.change(1, 0, ASH, 9, 9);
        mud.join(0, 3, 1, 1, 1);
        mud.keep(0, false);
        mud.untie(2);
        mud.tie(3, 1, 1);
        mud.tie(4, 1, 1);
        mud.ashes(false);
        due(38, "four pits again", mud.restore(), 4);
        due(38, "all is as it was", mud.digest(), before);
        due(38, "ashes are looked at", mud.ashes(true), 1);
        mud.leaf(0, ASH, 9, 9);
        due(38, "restored again", mud.restore(), 4);
        due(38, "all is as it was", mud.digest(), before);
        due(38, "a pit opened anew has no tie", mud.pit(5), 4);
        due(38, "a pit opened anew has no tie", mud.untie(4), 0);
        due(38, "a pit opened anew has no leaves", mud.about(4, NONE, 1), 0);
        due(37, "the latest one", mud.image(), 5);
        mud.pit(1);
        due(38, "five pits", mud.restore(), 5);
        handOf(mud, "l1");
        lawOf(mud, "l1");
        mud.letters(word("ab"));
        mud.sure(0, 0, 1, 0);
        mud.dig(0);
        mud.restore();
        due(38, "hands stay", mud.count(2), 1);
        due(38, "laws stay", mud.count(3), 1);
        due(38, "the page stays", mud.count(7), 2);
        due(38, "how often sure was done stays", mud.count(8), 1);
        due(38, "how often dig was done stays", mud.count(9), 1);
        LeavesOfMud empty = new LeavesOfMud();
        due(37, "no pits", empty.image(), 0);
        empty.pit(0);
        due(38, "no pits", empty.restore(), 0);
    }

    private static void count() {
        LeavesOfMud mud = threeJoined();
        mud.keep(1, false);
        mud.tie(0, 1, 1);
        mud.tie(3, 1, 1);
        handOf(mud, "l1");
        handOf(mud, "l2");
        lawOf(mud, "l1");
        lawOf(mud, "l1");
        lawOf(mud, "l1");
        mud.letters(word("abcde"));
        mud.sure(0, 0, 1, 0);
        mud.dig(0);
        mud.dig(0);
        int[] told = {4, 7, 2, 3, 3, 2, 2, 5, 1, 2};
        for (int what = 0; what <= 9; what++) {
            due(39, "count " + what, mud.count(what), told[what]);
        }
        due(39, "what below", mud.count(-1), OUTSIDE);
        due(39, "what above", mud.count(10), OUTSIDE);
    }

    private static long folded(long... numbers) {
        long h = 379;
        for (long number : numbers) {
            h = 31 * h + number;
        }
        return h;
    }

    private static void digest() {
        LeavesOfMud mud = new LeavesOfMud();
        due(40, "a new one", mud.digest(), folded(1, 1, 0, 0, 0, 0, 0, 0, 0, 0, 0, 0, 0));
        row(mud, 7, "l5 h6.3");
        row(mud, 8, "f9.2");
        mud.pit(9);
        handOf(mud, "h9");
        lawOf(mud, "l1");
        lawOf(mud, "u0");
        mud.join(1, 0, -4, 6, 20);
        mud.join(0, 2, 1, 1, 1);
        mud.keep(1, false);
        mud.tie(2, -5, 5);
        mud.letters(word("xy"));
        mud.sure(0, 0, 1, 0);
        mud.dig(0);
        due(40, "a full one", mud.digest(), folded(
                7, 0, 5, 0, 3, 6, 3, 2, 6,
                8, 4, 9, 2, 2, 2,
                9, 0, 0,
                3, 2, 1,
                3, 18, 9,
                1, 0, -4, 6, 20, 1,
                0, 2, 1, 1, 1, 0,
                2, -5, 5,
                1, 1,
                -6, 4, -100004, -100004, -100004, -100004,
                2,
                120, 121,
                3, 3, 1, 2, 2, 1, 1, 2, 1, 1));
        mud.ashes(false);
        mud.join(0, 1, 9, 9, 0);
        due(40, "one that does not close", mud.digest(), folded(
                7, 0, 5, 0, 3, 6, 3, 2, 6,
                8, 4, 9, 2, 2, 2,
                9, 0, 0,
                3, 2, 1,
                3, 18, 9,
                1, 0, -4, 6, 20, 1,
                0, 2, 1, 1, 1, 0,
                0, 1, 9, 9, 0, 1,
                2, -5, 5,
                0, 0,
                2,
                120, 121,
                3, 3, 1, 2, 3, 2, 1, 2, 1, 1));
    }
}
