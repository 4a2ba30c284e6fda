import java.util.ArrayList;
import java.util.List;

/** What the tests of edges share: answers that are due, worlds to ask, and what can be told of one. */
final class Bench {
    static final int NONE = -1;
    static final int UNKNOWN = -101;
    static final int OUTSIDE = -102;
    static final int STATE = -103;
    static final int FULL = -104;
    static final int WIDE_UNKNOWN = -100001;
    static final int WIDE_OUTSIDE = -100002;
    static final int WIDE_STATE = -100003;
    static final int WIDE_NONE = -100004;
    static final int MAX = Integer.MAX_VALUE;
    static final int MIN = Integer.MIN_VALUE;

    static final int LEAF = 0;
    static final int WARM = 1;
    static final int NEAR = 2;
    static final int HALF = 3;
    static final int FLOOD = 4;
    static final int ASH = 5;
    static final int SLUMP = 6;

    private static int asked = 0;
    private static int wrong = 0;

    interface Made {
        LeavesOfMud now();
    }

    interface Call {
        long on(LeavesOfMud mud);
    }

    private Bench() {
    }

    static void due(int promise, String sentence, long got, long want) {
        asked++;
        if (got != want) {
            wrong++;
            System.out.println("promise " + promise + ": " + sentence + ": answered " + got + ", due is " + want);
        }
    }

    /** A call that is refused has that answer, and changes nothing. */
    static void refused(int promise, String sentence, Made made, Call call, long want) {
        changesNothing(promise, sentence, made, call, want);
    }

    /** A call that only tells has that answer, and changes nothing. */
    static void told(int promise, String sentence, Made made, Call call, long want) {
        changesNothing(promise, sentence, made, call, want);
    }

    private static void changesNothing(int promise, String sentence, Made made, Call call, long want) {
        LeavesOfMud touched = made.now();
        due(promise, sentence, call.on(touched), want);
        List<Long> now = photo(touched);
        List<Long> ahead = photo(made.now());
        asked++;
        if (!now.equals(ahead)) {
            wrong++;
            System.out.println("promise " + promise + ": " + sentence + ": has changed " + ahead + " to " + now);
        }
    }

    /** The answer on a world made for this call alone. */
    static void taken(int promise, String sentence, Made made, Call call, long want) {
        due(promise, sentence, call.on(made.now()), want);
    }

    static void end() {
        System.out.println(asked + " answers, " + wrong + " wrong");
        if (wrong > 0) {
            System.exit(1);
        }
    }

    /** All that can be told of a world, the IMAGE last of all: the world is not for use behind this. */
    static List<Long> photo(LeavesOfMud mud) {
        List<Long> all = new ArrayList<>();
        tell(mud, all);
        for (int hand = NONE; hand < mud.count(2); hand++) {
            for (int pit = 0; pit < mud.count(0); pit++) {
                all.add((long) mud.at(hand, pit, Math.min(3, mud.about(pit, NONE, 1))));
            }
        }
        all.add((long) mud.fault(0));
        all.add((long) mud.fault(1));
        all.add((long) mud.hand());
        all.add((long) mud.law());
        all.add((long) mud.restore());
        tell(mud, all);
        return all;
    }

    private static void tell(LeavesOfMud mud, List<Long> all) {
        all.add(mud.digest());
        for (int what = 0; what <= 9; what++) {
            all.add((long) mud.count(what));
        }
        for (int pit = 0; pit < mud.count(0); pit++) {
            for (int what = 0; what <= 2; what++) {
                all.add((long) mud.about(pit, NONE, what));
                all.add((long) mud.about(pit, mud.about(pit, NONE, 1) - 1, what));
            }
        }
        all.add((long) mud.calendars(1));
        all.add((long) mud.castOut());
    }

    // ---- worlds

    static LeavesOfMud empty() {
        return new LeavesOfMud();
    }

    /**
     * Four PITS (the last one empty), LEAVES of all KINDS, two HANDS, two LAWS, two JOINS and a TIE, letters on THE
     * PAGE, an IMAGE that is older; IT CLOSES; sure() and dig() were done once. PIT 1 lies by two ASHES at 0 from 0.
     */
    static LeavesOfMud ordinary() {
        LeavesOfMud mud = new LeavesOfMud();
        row(mud, 0, "l12 a9.1 h6 h7 f30.1 n11 a8.2 w33");
        row(mud, 30, "l13 a9.1 l15 s8.3 l9 l12 a8.2");
        row(mud, 90, "n40 w20");
        row(mud, 90, "");
        handOf(mud, "h2,s3");
        handOf(mud, "l1,w4,n0,f5,a3");
        lawOf(mud, "l7,d2");
        lawOf(mud, "u2");
        mud.image();
        mud.join(1, 2, -3, 4, 30);
        mud.join(0, 2, 2, 9, 10);
        mud.keep(1, false);
        mud.tie(1, -8800, -8790);
        write(mud, "l4");
        mud.sure(0, 0, 1, 1);
        mud.dig(0);
        return mud;
    }

    /** The ordinary world with a JOIN that can't be. */
    static LeavesOfMud unclosed() {
        LeavesOfMud mud = ordinary();
        mud.join(0, 1, 50, 50, 5);
        return mud;
    }

    /** As much of everything as there may be: PITS, LEAVES, HANDS, LAWS, JOINS, TIES, letters, sure() and dig(). */
    static LeavesOfMud full() {
        LeavesOfMud mud = new LeavesOfMud();
        for (int pit = 0; pit < 7; pit++) {
            mud.pit(240 - pit);
            mud.lay(pit, 77 + pit, 20, 0, 30);
        }
        for (int i = 0; i < 4; i++) {
            handOf(mud, "h" + i);
            lawOf(mud, "l" + (20 + i));
        }
        for (int i = 0; i < 12; i++) {
            mud.join(i % 6, 6, i - 30, i + 20, i);
        }
        for (int pit = 0; pit < 7; pit++) {
            mud.tie(pit, -20, 30 + pit);
        }
        mud.image();
        for (int i = 0; i < 100; i++) {
            mud.sure(0, 0, 1, 0);
        }
        for (int i = 0; i < 8; i++) {
            mud.dig(0);
        }
        write(mud, "abcdefghijklmnopqrstuvwxyz~!?.");
        return mud;
    }

    // ---- how worlds are written

    /** A letter each for l, w, n, h, f, a, s as kinds, then the thickness; n behind a dot: "l12 a9.1". */
    static int row(LeavesOfMud mud, int miles, String leaves) {
        int pit = mud.pit(miles);
        for (String one : leaves.split(" ")) {
            if (!one.isEmpty()) {
                String[] parts = one.substring(1).split("\\.");
                int n = parts.length > 1 ? Integer.parseInt(parts[1]) : 0;
                mud.leaf(pit, "lwnhfas".indexOf(one.charAt(0)), Integer.parseInt(parts[0]), n);
            }
        }
        return pit;
    }

    /** A world of PITS alone. */
    static LeavesOfMud rows(String... rows) {
        LeavesOfMud mud = new LeavesOfMud();
        for (String leaves : rows) {
            row(mud, 0, leaves);
        }
        return mud;
    }

    /** The same LEAF so many times. */
    static String times(int many, String leaf) {
        return (leaf + " ").repeat(many).trim();
    }

    static long word(String text) {
        long w = 0;
        for (int i = text.length() - 1; i >= 0; i--) {
            w = w << 8 | text.charAt(i);
        }
        return w;
    }

    static void write(LeavesOfMud mud, String text) {
        for (int i = 0; i < text.length(); i += 8) {
            mud.letters(word(text.substring(i, Math.min(text.length(), i + 8))));
        }
    }

    static LeavesOfMud page(String text) {
        LeavesOfMud mud = new LeavesOfMud();
        write(mud, text);
        return mud;
    }

    static int handOf(LeavesOfMud mud, String text) {
        write(mud, text);
        return mud.hand();
    }

    static int lawOf(LeavesOfMud mud, String text) {
        write(mud, text);
        return mud.law();
    }
}
