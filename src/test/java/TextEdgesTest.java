/** Sentences of the document that name an edge of THE PAGE, HANDS, LAWS and counts: promises 8 to 15. */
public final class TextEdgesTest {
    private static final int NONE = Bench.NONE;
    private static final int UNKNOWN = Bench.UNKNOWN;
    private static final int OUTSIDE = Bench.OUTSIDE;
    private static final int STATE = Bench.STATE;
    private static final int FULL = Bench.FULL;
    private static final int MAX = Bench.MAX;
    private static final int MIN = Bench.MIN;
    private static final String LONGEST_HAND = "l0,w1,n2,h3,f4,a5,s9";
    private static final String LONGEST_LAW = "l10,d00,u99,a05";

    public static void main(String[] args) {
        lettersUpToEight();
        lettersOfNoByte();
        lettersAbove126();
        lettersBehindAZero();
        lettersAbove30();
        lettersRefusalsInOrder();
        blankOfEmptyAndFull();
        faultSorts();
        faultOfAnEmptyPage();
        faultOfAFullPage();
        faultIsNoneInWhatMayGoOn();
        faultByEachLetterOfAHand();
        faultByEachLetterOfALaw();
        faultOfALetterTwice();
        faultOfOneItemMore();
        handItemsAreOneToSeven();
        handDigits();
        handThatIsNone();
        handsAreFourAtMost();
        handWhatIsNotTold();
        handOfOneKindAlone();
        lawItemsAreOneToFour();
        lawDigits();
        lawThatIsNone();
        lawsAreFourAtMost();
        lawWhatIsNotTold();
        handsAndLawsAreApart();
        atUnknown();
        atLeafIsUpToHowMany();
        atIsRoundedDown();
        atEmptyAndMost();
        yearsUnknown();
        yearsAreRoundedUp();
        yearsEmptyAndMost();
        leanUnknown();
        leanBelowZero();
        leanOfEachPitRounded();
        leanMost();
        Bench.end();
    }

    // ---- Promise 8

    /** "up to eight, told by their codes in the bytes of w, the lowest byte first". */
    private static void lettersUpToEight() {
        String text = "l0,w1,n2";
        for (int many = 0; many <= 8; many++) {
            LeavesOfMud mud = Bench.empty();
            Bench.due(8, many + " letters", mud.letters(Bench.word(text.substring(0, many))), many);
            Bench.due(8, many + " letters counted", mud.count(7), many);
            Bench.due(8, many + " letters in order", mud.fault(0), many);
        }
        LeavesOfMud behind = Bench.page("l0");
        Bench.due(8, "behind THE PAGE", behind.letters(Bench.word(",w")), 4);
        Bench.due(8, "behind THE PAGE", behind.letters(Bench.word("1")), 5);
        Bench.due(8, "behind THE PAGE, in order", behind.hand(), 0);
        LeavesOfMud turned = Bench.empty();
        turned.letters(('l' << 8) | '0');
        Bench.due(8, "the lowest byte is first", turned.fault(0), 0);
    }

    /** "until a byte that is 0": none at all. */
    private static void lettersOfNoByte() {
        Bench.told(8, "none on an empty page", Bench::empty, m -> m.letters(0), 0);
        Bench.told(8, "none on a page of two", Bench::ordinary, m -> m.letters(0), 2);
        Bench.told(8, "none on a full page", Bench::full, m -> m.letters(0), 30);
    }

    /** "OUTSIDE: a byte above 126", at each place; 126 and 1 are taken there. */
    private static void lettersAbove126() {
        for (int place = 0; place < 8; place++) {
            long ahead = Bench.word("abcdefgh".substring(0, place));
            int at = place;
            for (long code : new long[] {127, 128, 200, 255}) {
                Bench.refused(8, code + " at " + place, Bench::ordinary, m -> m.letters(ahead | code << 8 * at), OUTSIDE);
            }
            for (long code : new long[] {1, 31, 126}) {
                Bench.taken(8, code + " at " + place, Bench::ordinary, m -> m.letters(ahead | code << 8 * at), 3 + at);
            }
        }
        Bench.refused(8, "all bits", Bench::empty, m -> m.letters(-1L), OUTSIDE);
        Bench.refused(8, "the least long", Bench::empty, m -> m.letters(Long.MIN_VALUE), OUTSIDE);
        Bench.refused(8, "the greatest long", Bench::empty, m -> m.letters(Long.MAX_VALUE), OUTSIDE);
        Bench.taken(8, "eight times 126", Bench::empty, m -> m.letters(0x7e7e7e7e7e7e7e7eL), 8);
        Bench.taken(8, "eight times 1", Bench::empty, m -> m.letters(0x0101010101010101L), 8);
    }

    /** "or one behind a 0 that is not 0": however many are between. */
    private static void lettersBehindAZero() {
        for (int zero = 0; zero < 7; zero++) {
            long ahead = Bench.word("abcdefgh".substring(0, zero));
            for (int place = zero + 1; place < 8; place++) {
                long w = ahead | (long) 'x' << 8 * place;
                Bench.refused(8, "0 at " + zero + ", x at " + place, Bench::ordinary, m -> m.letters(w), OUTSIDE);
            }
        }
    }

    /** "FULL: above 30". */
    private static void lettersAbove30() {
        for (int had = 22; had <= 30; had++) {
            int size = had;
            Bench.Made page = () -> Bench.page("abcdefghijklmnopqrstuvwxyzabcd".substring(0, size));
            int room = 30 - had;
            if (room < 8) {
                long tooMany = Bench.word("12345678".substring(0, room + 1));
                Bench.refused(8, "one above 30, on " + had, page, m -> m.letters(tooMany), FULL);
                Bench.refused(8, "eight on " + had, page, m -> m.letters(Bench.word("12345678")), FULL);
            }
            long fitting = Bench.word("12345678".substring(0, room));
            Bench.taken(8, "30, on " + had, page, m -> m.letters(fitting), 30);
        }
        Bench.refused(8, "one on 30", Bench::full, m -> m.letters('x'), FULL);
        LeavesOfMud after = Bench.full();
        after.blank();
        Bench.due(8, "there is room again", after.letters(Bench.word("l4")), 2);
    }

    /** "of several the first as told": OUTSIDE, then FULL. */
    private static void lettersRefusalsInOrder() {
        Bench.refused(8, "127 on a full page", Bench::full, m -> m.letters(127), OUTSIDE);
        Bench.refused(8, "behind a 0 on a full page", Bench::full, m -> m.letters((long) 'x' << 8), OUTSIDE);
    }

    // ---- Promise 9

    /** "THE PAGE is empty: how many letters it had". */
    private static void blankOfEmptyAndFull() {
        Bench.told(9, "an empty page", Bench::empty, m -> m.blank(), 0);
        LeavesOfMud mud = Bench.full();
        Bench.due(9, "a full page", mud.blank(), 30);
        Bench.due(9, "it is empty", mud.count(7), 0);
        Bench.due(9, "it is empty", mud.fault(0), 0);
        Bench.due(9, "once more", mud.blank(), 0);
        Bench.due(9, "HANDS stay", mud.count(2), 4);
        Bench.due(9, "LAWS stay", mud.count(3), 4);
        LeavesOfMud over = Bench.page("xxxx");
        over.blank();
        Bench.due(9, "letters begin anew", Bench.handOf(over, "l4"), 0);
    }

    // ---- Promise 10

    /** "HAND (sort 0), LAW (1)"; "OUTSIDE". */
    private static void faultSorts() {
        for (int sort : new int[] {-1, 2, MIN, MAX}) {
            Bench.refused(10, "sort " + sort, Bench::ordinary, m -> m.fault(sort), OUTSIDE);
            Bench.refused(10, "sort " + sort + ", an empty page", Bench::empty, m -> m.fault(sort), OUTSIDE);
        }
        Bench.told(10, "sort 0", () -> Bench.page("w4"), m -> m.fault(0), 2);
        Bench.told(10, "sort 1", () -> Bench.page("w4"), m -> m.fault(1), 0);
        Bench.told(10, "sort 0", () -> Bench.page("u44"), m -> m.fault(0), 0);
        Bench.told(10, "sort 1", () -> Bench.page("u44"), m -> m.fault(1), 3);
    }

    /** "how many letters it has, if there is none": 0 of an empty page. */
    private static void faultOfAnEmptyPage() {
        Bench.told(10, "a HAND", Bench::empty, m -> m.fault(0), 0);
        Bench.told(10, "a LAW", Bench::empty, m -> m.fault(1), 0);
    }

    private static void faultOfAFullPage() {
        Bench.told(10, "a HAND and ten letters", () -> Bench.page(LONGEST_HAND + ",l0,w1,n2,"), m -> m.fault(0), 20);
        Bench.told(10, "a LAW twice", () -> Bench.page(LONGEST_LAW + LONGEST_LAW), m -> m.fault(1), 15);
        Bench.told(10, "commas", () -> Bench.page(",".repeat(30)), m -> m.fault(0), 0);
        Bench.told(10, "digits", () -> Bench.page("l" + "9".repeat(29)), m -> m.fault(1), 3);
    }

    /** "that no HAND, LAW has there, behind those ahead of it": what may still go on has no fault. */
    private static void faultIsNoneInWhatMayGoOn() {
        for (int size = 0; size <= LONGEST_HAND.length(); size++) {
            String text = LONGEST_HAND.substring(0, size);
            Bench.told(10, "'" + text + "' of a HAND", () -> Bench.page(text), m -> m.fault(0), size);
        }
        for (int size = 0; size <= LONGEST_LAW.length(); size++) {
            String text = LONGEST_LAW.substring(0, size);
            Bench.told(10, "'" + text + "' of a LAW", () -> Bench.page(text), m -> m.fault(1), size);
        }
    }

    /** At each place of a text each letter that there is: a fault there, or none. */
    private static void eachLetterBehind(int sort, String ahead, String fit) {
        for (char code = 1; code <= 126; code++) {
            LeavesOfMud mud = Bench.page(ahead + code);
            boolean is = fit.indexOf(code) >= 0;
            String told = "letter " + (int) code + " behind '" + ahead + "', sort " + sort;
            Bench.due(10, told, mud.fault(sort), is ? ahead.length() + 1 : ahead.length());
        }
    }

    private static void faultByEachLetterOfAHand() {
        eachLetterBehind(0, "", "lwnhfas");
        eachLetterBehind(0, "s", "0123456789");
        eachLetterBehind(0, "s0", ",");
        eachLetterBehind(0, "s0,", "lwnhfa");
        eachLetterBehind(0, "s0,l1,w2,n3,h4,f5,", "a");
        eachLetterBehind(0, "s0,l1,w2,n3,h4,f5,a", "0123456789");
        eachLetterBehind(0, "s0,l1,w2,n3,h4,f5,a9", "");
    }

    private static void faultByEachLetterOfALaw() {
        eachLetterBehind(1, "", "ldua");
        eachLetterBehind(1, "a", "0123456789");
        eachLetterBehind(1, "a0", "0123456789,");
        eachLetterBehind(1, "a00", ",");
        eachLetterBehind(1, "a0,", "ldu");
        eachLetterBehind(1, "a0,l00,d1,", "u");
        eachLetterBehind(1, "a0,l00,d1,u", "0123456789");
        eachLetterBehind(1, "a0,l00,d1,u1", "0123456789");
        eachLetterBehind(1, "a0,l00,d1,u99", "");
    }

    /** "each at most once": the fault is the letter that comes again. */
    private static void faultOfALetterTwice() {
        for (char letter : "lwnhfas".toCharArray()) {
            Bench.told(10, letter + " twice", () -> Bench.page(letter + "1," + letter), m -> m.fault(0), 3);
            Bench.told(10, letter + " twice, whole", () -> Bench.page(letter + "1," + letter + "1"), m -> m.fault(0), 3);
        }
        for (char letter : "ldua".toCharArray()) {
            Bench.told(10, letter + " twice", () -> Bench.page(letter + "11," + letter), m -> m.fault(1), 4);
            Bench.told(10, letter + " twice, whole", () -> Bench.page(letter + "1," + letter + "1"), m -> m.fault(1), 3);
        }
    }

    /** "one to seven ITEMS", "one to four ITEMS": the comma behind the last one is the fault. */
    private static void faultOfOneItemMore() {
        Bench.told(10, "a comma behind seven", () -> Bench.page(LONGEST_HAND + ","), m -> m.fault(0), 20);
        Bench.told(10, "a comma behind four", () -> Bench.page(LONGEST_LAW + ","), m -> m.fault(1), 15);
        Bench.told(10, "a comma behind four short ones", () -> Bench.page("l1,d0,u9,a5,"), m -> m.fault(1), 11);
        Bench.told(10, "a comma behind six", () -> Bench.page("l0,w1,n2,h3,f4,a5,"), m -> m.fault(0), 18);
        Bench.told(10, "a comma behind three", () -> Bench.page("l1,d0,u9,"), m -> m.fault(1), 9);
    }

    // ---- Promise 11

    /** "one to seven ITEMS": each number of them, THE PAGE is empty then. */
    private static void handItemsAreOneToSeven() {
        for (int items = 1; items <= 7; items++) {
            LeavesOfMud mud = Bench.page(LONGEST_HAND.substring(0, 3 * items - 1));
            Bench.due(11, items + " ITEMS", mud.hand(), 0);
            Bench.due(11, "THE PAGE is empty", mud.count(7), 0);
            Bench.due(11, "it is counted", mud.count(2), 1);
            Bench.due(11, "THE PAGE is none", mud.hand(), STATE);
        }
        Bench.refused(11, "no ITEM", Bench::empty, m -> m.hand(), STATE);
        Bench.refused(11, "eight ITEMS", () -> Bench.page(LONGEST_HAND + ",l1"), m -> m.hand(), STATE);
    }

    /** "a digit: for how many halves of a year": 0 to 9. */
    private static void handDigits() {
        for (int digit = 0; digit <= 9; digit++) {
            LeavesOfMud mud = Bench.rows("l1 l1 l1 l1");
            Bench.handOf(mud, "l" + digit);
            Bench.due(11, "digit " + digit, mud.years(0, 0), 2 * digit);
        }
        Bench.refused(11, "two digits", () -> Bench.page("l10"), m -> m.hand(), STATE);
        Bench.refused(11, "no digit", () -> Bench.page("l"), m -> m.hand(), STATE);
        Bench.refused(11, "no digit, then a comma", () -> Bench.page("l,"), m -> m.hand(), STATE);
    }

    /** "STATE: it is none": whatever ends too soon, goes on too long, or is something else. */
    private static void handThatIsNone() {
        String[] none = {"l", "l4,", "l4,w", "l4,w2,", "4", ",", "l4,,w2", ",l4", "l4 ", " l4", "L4", "l4,l4", "l4;w2",
            "u4", "l7,d2", "l44", LONGEST_HAND + ",", LONGEST_HAND + "1", "x".repeat(30)};
        for (String text : none) {
            Bench.refused(11, "'" + text + "'", () -> Bench.page(text), m -> m.hand(), STATE);
        }
    }

    /** "HANDS (4 at most, numbered)"; "FULL", behind STATE. */
    private static void handsAreFourAtMost() {
        LeavesOfMud mud = Bench.rows("l1 l1");
        for (int hand = 0; hand < 4; hand++) {
            Bench.due(11, "HAND " + hand, Bench.handOf(mud, "l" + (hand + 3)), hand);
        }
        for (int hand = 0; hand < 4; hand++) {
            Bench.due(11, "HAND " + hand + " tells", mud.years(hand, 0), hand + 3);
        }
        Bench.due(11, "the fifth", Bench.handOf(mud, "l9"), FULL);
        Bench.due(11, "THE PAGE is as it was", mud.count(7), 2);
        Bench.due(11, "still four", mud.count(2), 4);
        Bench.due(11, "no HAND 4", mud.years(4, 0), UNKNOWN);
        Bench.refused(11, "FULL changes nothing", TextEdgesTest::fullWithAHandOnThePage, m -> m.hand(), FULL);
        Bench.refused(11, "STATE, and FULL", Bench::full, m -> m.hand(), STATE);
    }

    private static LeavesOfMud fullWithAHandOnThePage() {
        LeavesOfMud mud = Bench.full();
        mud.blank();
        Bench.write(mud, "w8");
        return mud;
    }

    /** "What is not told: 2 of LEAF, WARM, NEAR, ASH; 1 of HALF; twice n of a FLOOD; 0 of a SLUMP." */
    private static void handWhatIsNotTold() {
        String[] kinds = {"l", "w", "n", "h", "f", "a", "s"};
        int[] halves = {2, 2, 2, 1, 18, 2, 0};
        for (int kind = 0; kind < 7; kind++) {
            LeavesOfMud mud = Bench.rows(kinds[kind] + "5.9 " + kinds[kind] + "5.9");
            Bench.due(13, "two of kind " + kind + ", plain", mud.at(NONE, 0, 2), halves[kind]);
            for (int told = 0; told < 4; told++) {
                String other = kinds[(kind + 1 + told) % 7];
                Bench.handOf(mud, other + "9");
                Bench.due(13, "kind " + kind + " where " + other + " is told", mud.at(told, 0, 2), halves[kind]);
            }
        }
        LeavesOfMud floods = Bench.rows("f5.0", "f5.1", "f5.9");
        Bench.due(14, "a FLOOD of n 0", floods.years(NONE, 0), 0);
        Bench.due(14, "a FLOOD of n 1", floods.years(NONE, 1), 1);
        Bench.due(14, "a FLOOD of n 9", floods.years(NONE, 2), 9);
        Bench.handOf(floods, "f3");
        Bench.due(14, "a FLOOD that is told of, whatever its n", floods.at(0, 0, 1), 1);
        Bench.due(14, "a FLOOD that is told of, whatever its n", floods.at(0, 2, 1), 1);
        Bench.handOf(floods, "f0");
        Bench.due(14, "told as 0 is not the same as not told", floods.years(1, 2), 0);
    }

    /** A letter tells of LEAVES of that KIND; all others are as they are when nothing is told. */
    private static void handOfOneKindAlone() {
        String all = "l1.3 w1.3 n1.3 h1.3 f1.3 a1.3 s1.3";
        int plain = 2 + 2 + 2 + 1 + 6 + 2;
        int[] halves = {2, 2, 2, 1, 6, 2, 0};
        for (int kind = 0; kind < 7; kind++) {
            LeavesOfMud mud = Bench.rows(all + " " + all);
            Bench.handOf(mud, "lwnhfas".charAt(kind) + "9");
            Bench.due(13, "kind " + kind + " told as 9", mud.at(0, 0, 14), plain - halves[kind] + 9);
        }
    }

    // ---- Promise 12

    /** "one to four ITEMS": each number of them, THE PAGE is empty then. */
    private static void lawItemsAreOneToFour() {
        String[] laws = {"l10", "l10,d00", "l10,d00,u99", LONGEST_LAW};
        for (String text : laws) {
            LeavesOfMud mud = Bench.page(text);
            Bench.due(12, text, mud.law(), 0);
            Bench.due(12, "THE PAGE is empty", mud.count(7), 0);
            Bench.due(12, "it is counted", mud.count(3), 1);
            Bench.due(12, "THE PAGE is none", mud.law(), STATE);
        }
        Bench.refused(12, "no ITEM", Bench::empty, m -> m.law(), STATE);
        Bench.refused(12, "five ITEMS", () -> Bench.page("l1,d1,u1,a1,l2"), m -> m.law(), STATE);
    }

    /** "one or two digits": 0 to 99. */
    private static void lawDigits() {
        String[] digits = {"0", "00", "1", "01", "9", "09", "10", "90", "99"};
        int[] prices = {0, 0, 1, 1, 9, 9, 10, 90, 99};
        for (int i = 0; i < digits.length; i++) {
            LeavesOfMud mud = Bench.rows("l1", "");
            Bench.lawOf(mud, "l" + digits[i]);
            Bench.due(12, "LOST " + digits[i], mud.together(0, 0, 1, 0), prices[i]);
        }
        Bench.refused(12, "three digits", () -> Bench.page("l100"), m -> m.law(), STATE);
        Bench.refused(12, "no digit", () -> Bench.page("l"), m -> m.law(), STATE);
        Bench.refused(12, "no digit, then a comma", () -> Bench.page("l,d1"), m -> m.law(), STATE);
    }

    /** "STATE: it is none". */
    private static void lawThatIsNone() {
        String[] none = {"l", "l4,", "l4,d", "4", ",", "l4,,d2", ",l4", "l4 ", " l4", "L4", "l4,l4", "l4;d2", "w4",
            "h2,s3", "l444", LONGEST_LAW + ",", LONGEST_LAW + "1", "x".repeat(30)};
        for (String text : none) {
            Bench.refused(12, "'" + text + "'", () -> Bench.page(text), m -> m.law(), STATE);
        }
    }

    /** "LAWS (4 at most, numbered)"; "FULL", behind STATE. */
    private static void lawsAreFourAtMost() {
        LeavesOfMud mud = Bench.rows("l1", "");
        for (int law = 0; law < 4; law++) {
            Bench.due(12, "LAW " + law, Bench.lawOf(mud, "l" + (law + 3)), law);
        }
        for (int law = 0; law < 4; law++) {
            Bench.due(12, "LAW " + law + " tells", mud.together(law, 0, 1, 0), law + 3);
        }
        Bench.due(12, "the fifth", Bench.lawOf(mud, "l9"), FULL);
        Bench.due(12, "THE PAGE is as it was", mud.count(7), 2);
        Bench.due(12, "still four", mud.count(3), 4);
        Bench.due(12, "no LAW 4", mud.together(4, 0, 1, 0), UNKNOWN);
        Bench.refused(12, "FULL changes nothing", TextEdgesTest::fullWithALawOnThePage, m -> m.law(), FULL);
        Bench.refused(12, "STATE, and FULL", Bench::full, m -> m.law(), STATE);
    }

    private static LeavesOfMud fullWithALawOnThePage() {
        LeavesOfMud mud = Bench.full();
        mud.blank();
        Bench.write(mud, "u8");
        return mud;
    }

    /** "What is not told: LOST 9, DOUBLED 3, UNLIKE 1, ASHES 40", each where the other three are told. */
    private static void lawWhatIsNotTold() {
        LeavesOfMud lost = Bench.rows("l1", "");
        Bench.lawOf(lost, "d99,u99,a99");
        Bench.due(12, "LOST is 9", lost.together(0, 0, 1, 0), 9);
        LeavesOfMud doubled = Bench.rows("l10", "l4 l6");
        Bench.lawOf(doubled, "l99,u99,a99");
        Bench.due(12, "DOUBLED is 3", doubled.together(0, 0, 1, 0), 3);
        LeavesOfMud unlike = Bench.rows("l10", "l17");
        Bench.lawOf(unlike, "l99,d99,a99");
        Bench.due(12, "UNLIKE is 1", unlike.together(0, 0, 1, 0), 7);
        LeavesOfMud ashes = Bench.rows("a10.1", "a10.2");
        Bench.lawOf(ashes, "l99,d99,u99");
        Bench.due(12, "ASHES is 40", ashes.together(0, 0, 1, 0), 40);
        LeavesOfMud zero = Bench.rows("a10.1 l1", "a10.2");
        Bench.lawOf(zero, "l0,d0,u0,a0");
        Bench.due(12, "told as 0 is not the same as not told", zero.together(0, 0, 1, 0), 0);
    }

    /** A text that is both may be read as either; the other is not made then. */
    private static void handsAndLawsAreApart() {
        LeavesOfMud mud = Bench.page("l7,a3");
        Bench.due(11, "a HAND", mud.hand(), 0);
        Bench.due(12, "no LAW", mud.count(3), 0);
        Bench.write(mud, "l7,a3");
        Bench.due(12, "a LAW", mud.law(), 0);
        Bench.due(11, "one HAND", mud.count(2), 1);
        LeavesOfMud full = Bench.empty();
        for (int i = 0; i < 4; i++) {
            Bench.handOf(full, "l1");
        }
        Bench.due(12, "four HANDS are in no LAW's way", Bench.lawOf(full, "l1"), 0);
    }

    // ---- Promise 13

    /** "UNKNOWN: hand, pit, leaf". */
    private static void atUnknown() {
        for (int hand : new int[] {-2, 2, 4, MIN, MAX}) {
            Bench.refused(13, "hand " + hand, Bench::ordinary, m -> m.at(hand, 0, 0), UNKNOWN);
        }
        Bench.refused(13, "hand 4 of four", Bench::full, m -> m.at(4, 0, 0), UNKNOWN);
        Bench.told(13, "hand 3 of four", Bench::full, m -> m.at(3, 0, 0), 0);
        Bench.refused(13, "hand 0 of none", () -> Bench.rows("l1"), m -> m.at(0, 0, 0), UNKNOWN);
        for (int pit : new int[] {-1, 4, 7, MIN, MAX}) {
            Bench.refused(13, "pit " + pit, Bench::ordinary, m -> m.at(NONE, pit, 0), UNKNOWN);
        }
    }

    /** "leaf: 0 to how many there are; that number: where it ends". */
    private static void atLeafIsUpToHowMany() {
        for (int leaf : new int[] {-1, 9, MIN, MAX}) {
            Bench.refused(13, "leaf " + leaf, Bench::ordinary, m -> m.at(NONE, 0, leaf), UNKNOWN);
        }
        Bench.told(13, "where the first begins", Bench::ordinary, m -> m.at(NONE, 0, 0), 0);
        Bench.told(13, "where the last begins", Bench::ordinary, m -> m.at(NONE, 0, 7), 6);
        Bench.told(13, "where it ends", Bench::ordinary, m -> m.at(NONE, 0, 8), 7);
        Bench.told(13, "where a full PIT ends", () -> Bench.rows(Bench.times(16, "l1")), m -> m.at(NONE, 0, 16), 16);
        Bench.refused(13, "behind a full PIT", () -> Bench.rows(Bench.times(16, "l1")), m -> m.at(NONE, 0, 17), UNKNOWN);
    }

    /** "by 2, rounded down", where it ends, too. */
    private static void atIsRoundedDown() {
        LeavesOfMud mud = Bench.rows(Bench.times(5, "h1"));
        int[] at = {0, 0, 1, 1, 2, 2};
        for (int leaf = 0; leaf <= 5; leaf++) {
            Bench.due(13, leaf + " halves", mud.at(NONE, 0, leaf), at[leaf]);
        }
    }

    private static void atEmptyAndMost() {
        Bench.told(13, "an empty PIT ends where it begins", Bench::ordinary, m -> m.at(NONE, 3, 0), 0);
        Bench.told(13, "by a HAND, too", Bench::ordinary, m -> m.at(1, 3, 0), 0);
        Bench.refused(13, "an empty PIT has no more", Bench::ordinary, m -> m.at(NONE, 3, 1), UNKNOWN);
        LeavesOfMud floods = Bench.rows(Bench.times(16, "f1.9"));
        Bench.due(13, "16 FLOODS of 9", floods.at(NONE, 0, 16), 144);
        Bench.due(13, "15 FLOODS of 9", floods.at(NONE, 0, 15), 135);
        Bench.handOf(floods, "f9");
        Bench.due(13, "16 times 9 halves", floods.at(0, 0, 16), 72);
        Bench.due(13, "15 times 9 halves", floods.at(0, 0, 15), 67);
    }

    // ---- Promise 14

    /** "UNKNOWN: hand, pit". */
    private static void yearsUnknown() {
        for (int hand : new int[] {-2, 2, 4, MIN, MAX}) {
            Bench.refused(14, "hand " + hand, Bench::ordinary, m -> m.years(hand, 0), UNKNOWN);
        }
        for (int pit : new int[] {-1, 4, 7, MIN, MAX}) {
            Bench.refused(14, "pit " + pit, Bench::ordinary, m -> m.years(NONE, pit), UNKNOWN);
        }
        Bench.refused(14, "pit 7 of seven", Bench::full, m -> m.years(NONE, 7), UNKNOWN);
        Bench.refused(14, "hand 4 of four", Bench::full, m -> m.years(4, 0), UNKNOWN);
    }

    /** "of all its LEAVES, rounded up". */
    private static void yearsAreRoundedUp() {
        int[] years = {0, 1, 1, 2, 2, 3};
        for (int halves = 0; halves <= 5; halves++) {
            LeavesOfMud mud = Bench.rows(Bench.times(halves, "h1"));
            Bench.due(14, halves + " halves", mud.years(NONE, 0), years[halves]);
            Bench.due(5, halves + " halves, of the PIT", mud.about(0, NONE, 2), years[halves]);
        }
    }

    private static void yearsEmptyAndMost() {
        Bench.told(14, "an empty PIT", Bench::ordinary, m -> m.years(NONE, 3), 0);
        Bench.told(14, "an empty PIT by a HAND", Bench::ordinary, m -> m.years(1, 3), 0);
        LeavesOfMud mud = Bench.rows(Bench.times(16, "f1.9"), Bench.times(15, "f1.9"));
        Bench.handOf(mud, "f9");
        Bench.due(14, "16 FLOODS of 9", mud.years(NONE, 0), 144);
        Bench.due(14, "15 times 9 halves", mud.years(0, 1), 68);
        LeavesOfMud slumps = Bench.rows(Bench.times(16, "s1.9"));
        Bench.due(14, "16 SLUMPS", slumps.years(NONE, 0), 0);
    }

    // ---- Promise 15

    /** "-100001: UNKNOWN: hand, other". */
    private static void leanUnknown() {
        for (int hand : new int[] {-2, 2, 4, MIN, MAX}) {
            Bench.refused(15, "hand " + hand, Bench::ordinary, m -> m.lean(hand, 0), Bench.WIDE_UNKNOWN);
            Bench.refused(15, "other " + hand, Bench::ordinary, m -> m.lean(NONE, hand), Bench.WIDE_UNKNOWN);
        }
        Bench.refused(15, "no HANDS", Bench::empty, m -> m.lean(NONE, 0), Bench.WIDE_UNKNOWN);
        Bench.told(15, "the plain hand and itself", Bench::empty, m -> m.lean(NONE, NONE), 0);
        Bench.told(15, "the last of four", Bench::full, m -> m.lean(3, 3), 0);
        Bench.refused(15, "behind the last of four", Bench::full, m -> m.lean(3, 4), Bench.WIDE_UNKNOWN);
    }

    /** "(it may be below 0)": -1 is a LEAN, not NONE. */
    private static void leanBelowZero() {
        LeavesOfMud mud = Bench.rows("l1");
        Bench.handOf(mud, "l4");
        Bench.handOf(mud, "l0");
        Bench.due(15, "plain less the first", mud.lean(NONE, 0), -1);
        Bench.due(15, "the first less plain", mud.lean(0, NONE), 1);
        Bench.due(15, "the second less the first", mud.lean(1, 0), -2);
    }

    /** "YEARS of all PITS by the first less those by the second": each PIT's rounded up on its own. */
    private static void leanOfEachPitRounded() {
        LeavesOfMud mud = Bench.rows("h1", "h1", "h1");
        Bench.handOf(mud, "h0");
        Bench.handOf(mud, "h2");
        Bench.due(15, "three half years are three", mud.lean(NONE, 0), 3);
        Bench.due(15, "and as many as three whole ones", mud.lean(NONE, 1), 0);
    }

    private static void leanMost() {
        String row = Bench.times(16, "f1.9");
        LeavesOfMud mud = Bench.rows(row, row, row, row, row, row, row);
        Bench.handOf(mud, "f0");
        Bench.due(15, "the most", mud.lean(NONE, 0), 1008);
        Bench.due(15, "the least", mud.lean(0, NONE), -1008);
    }
}
