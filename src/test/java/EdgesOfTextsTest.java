/** Promises 8 to 12, and how BARGES and RITES are told: each boundary that the document names for TEXTS. */
public final class EdgesOfTextsTest {
    private static final int MOST = Edge.MOST, LEAST = Edge.LEAST, NONE = HeavierSide.NONE;
    private static final String FORTY = "s".repeat(40);

    public static void main(String[] args) {
        textOfNone();
        textOfSixty();
        textOfMoreThanSixty();
        textOfFewerThanNone();
        textIsThereWithBlanks();
        putFirstAndLastByte();
        putIsCutToAByte();
        putIsRefused();
        faultIsRefused();
        bargeBlanks();
        bargeBlanksAlone();
        bargeNoBlanksWithinItems();
        bargeHowFarOut();
        bargeMiddleHasNoFigure();
        bargeEightBenches();
        bargeWeights();
        bargeKin();
        bargeSevenGuests();
        bargeBenchBehindAGuest();
        bargeGuestAheadOfAllBenches();
        bargeOtherLetters();
        bargeEndsTooEarly();
        bargeFirstFaultIsTold();
        riteBlanks();
        riteFortyMinutes();
        riteOneMinute();
        riteOtherBytes();
        bargeAnswersHowManyBenches();
        bargeIsAnew();
        bargeLetsLimitRainRiteStay();
        bargeIsRefused();
        bargeIsNotItsText();
        riteAnswersHowManyMinutes();
        riteIsAnew();
        riteIsRefused();
        Due.end();
    }

    // 8 "A TEXT is there with n blanks: n. BAD: also n above 60; SIZE: below 0."

    private static void textOfNone() {
        Edge.answers("text(3, 0)", Scene.empty(), x -> x.text(3, 0), 0);
        Edge.answers("it is there", Scene.empty().text(3, ""), x -> x.count(7), 1);
        Edge.finds("it has no bytes", Scene.empty().text(3, ""), x -> x.put(3, 0, 1), Edge.BEYOND);
    }

    private static void textOfSixty() {
        Edge.answers("text(3, 60)", Scene.empty(), x -> x.text(3, 60), 60);
        Edge.answers("its last byte", Scene.empty().then(x -> x.text(3, 60)), x -> x.put(3, 59, 1), 1032);
        Edge.finds("behind it", Scene.empty().then(x -> x.text(3, 60)), x -> x.put(3, 60, 1), Edge.BEYOND);
    }

    private static void textOfMoreThanSixty() {
        for (int n : new int[] {61, 62, MOST}) {
            Edge.bad("text(0, " + n + ")", Scene.full(), x -> x.text(0, n));
            Edge.bad("text(3, " + n + ")", Scene.full(), x -> x.text(3, n));
        }
    }

    private static void textOfFewerThanNone() {
        for (int n : new int[] {-1, -60, LEAST}) {
            Edge.finds("text(0, " + n + ")", Scene.full(), x -> x.text(0, n), Edge.SIZE);
            Edge.finds("text(3, " + n + ")", Scene.full(), x -> x.text(3, n), Edge.SIZE);
        }
    }

    private static void textIsThereWithBlanks() {
        for (int n = 1; n <= 4; n++) {
            int size = n;
            Scene anew = Scene.empty().text(1, "xyz").then(x -> x.text(1, size));
            for (int i = 0; i < n; i++) {
                int place = i;
                Edge.answers("byte " + i + " of " + n + " anew", anew, x -> x.put(1, place, 1), 1032);
            }
            Edge.finds("behind " + n + " anew", anew, x -> x.put(1, size, 1), Edge.BEYOND);
        }
    }

    // 9 "Byte i of a TEXT is v, cut to a byte (-128 .. 127): what it was, and 1000 more. BAD; NOTHING; BEYOND."

    private static void putFirstAndLastByte() {
        Edge.answers("the first", Scene.empty().text(0, "abc"), x -> x.put(0, 0, 1), 1000 + 'a');
        Edge.answers("the last", Scene.empty().text(0, "abc"), x -> x.put(0, 2, 1), 1000 + 'c');
        Scene laid = Scene.empty().text(0, "abc").then(x -> x.put(0, 1, 7));
        Edge.answers("it is v", laid, x -> x.put(0, 1, 1), 1007);
        Edge.answers("the one ahead stays", laid, x -> x.put(0, 0, 1), 1000 + 'a');
        Edge.answers("the one behind stays", laid, x -> x.put(0, 2, 1), 1000 + 'c');
        Edge.answers("asked() stays", laid, x -> x.asked(), 0);
    }

    private static void putIsCutToAByte() {
        int[][] cuts = {{127, 127}, {128, -128}, {129, -127}, {255, -1}, {256, 0}, {257, 1}, {0, 0}, {-1, -1},
            {-128, -128}, {-129, 127}, {-255, 1}, {-256, 0}, {MOST, -1}, {LEAST, 0}, {1000, -24}};
        for (int[] cut : cuts) {
            Scene put = Scene.empty().text(0, " ").then(x -> x.put(0, 0, cut[0]));
            Edge.answers(cut[0] + " cut", put, x -> x.put(0, 0, 32), 1000 + cut[1]);
        }
    }

    private static void putIsRefused() {
        for (int i : new int[] {LEAST, -1, 34, 60, MOST}) {
            Edge.finds("put(0, " + i + ", 1)", Scene.full(), x -> x.put(0, i, 1), Edge.BEYOND);
            Edge.finds("put(3, " + i + ", 1) missing", Scene.full(), x -> x.put(3, i, 1), Edge.NOTHING);
            Edge.bad("put(4, " + i + ", 1)", Scene.full(), x -> x.put(4, i, 1));
        }
        Edge.finds("put(2, 0, 1) without bytes", Scene.full(), x -> x.put(2, 0, 1), Edge.BEYOND);
        Edge.finds("put(0, 2, 1) of fewer", Scene.full().text(0, "ab"), x -> x.put(0, 2, 1), Edge.BEYOND);
    }

    // 10 "A FAULT of a TEXT of a BARGE (rite: of a RITE); NONE: there is none. BAD; NOTHING."

    private static void faultIsRefused() {
        for (int t : new int[] {-1, 4}) {
            Edge.bad("fault(" + t + ", false)", Scene.full(), x -> x.fault(t, false));
            Edge.bad("fault(" + t + ", true)", Scene.full(), x -> x.fault(t, true));
        }
        Edge.finds("fault(3, false)", Scene.full(), x -> x.fault(3, false), Edge.NOTHING);
        Edge.finds("fault(3, true)", Scene.full(), x -> x.fault(3, true), Edge.NOTHING);
        Edge.none("fault(0, false)", Scene.full(), x -> x.fault(0, false));
        Edge.none("fault(1, true)", Scene.full(), x -> x.fault(1, true));
        Edge.leavesAll("a FAULT", Scene.full(), x -> x.fault(0, true));
        Edge.answers("a FAULT is no refusal", Scene.full(), x -> x.fault(0, true) * 100 + x.finding(), 4);
    }

    /** What fault() answers, and whether barge() takes it. */
    private static void barge(String signs, int fault) {
        Scene told = Scene.full().text(3, signs);
        Edge.answers("fault of '" + signs + "'", told, x -> x.fault(3, false), fault);
        if (fault == NONE) {
            Edge.answers("'" + signs + "' is taken", told, x -> x.barge(3) > 0 ? 1 : 0, 1);
        } else {
            Edge.state("'" + signs + "' is not taken", told, x -> x.barge(3));
        }
    }

    // "A BARGE .. is a TEXT: blanks (32) ahead, between, behind as many as wanted, none within items."

    private static void bargeBlanks() {
        barge("l1r1g10", NONE);
        barge("   l1   r1   g10   ", NONE);
        barge(" ".repeat(57) + "m  ", NONE);
        barge("m" + " ".repeat(59), NONE);
        barge(" ".repeat(59) + "m", NONE);
        barge("m\t", 1);
        barge("m\n", 1);
        barge("m\0", 1);
        barge("\u00a0m", 0);
    }

    /** "the TEXT's size, if .. there are blanks alone" */
    private static void bargeBlanksAlone() {
        barge("", 0);
        barge(" ", 1);
        barge(" ".repeat(60), 60);
    }

    private static void bargeNoBlanksWithinItems() {
        barge("l 1", 1);
        barge("r 1", 1);
        barge("m g 10", 3);
        barge("m g1 0", 4);
    }

    // "First BENCHES (8 at most ..): l (108) or r (114) and how far out (1 .. 9, one figure), or m (109), the middle"

    private static void bargeHowFarOut() {
        for (char side : new char[] {'l', 'r'}) {
            barge(side + "0", 1);
            barge(side + "1", NONE);
            barge(side + "9", NONE);
            barge(side + ":", 1);
            barge(side + "/", 1);
            barge(side + "-1", 1);
            barge(side + "10", 2);
            barge(side + "" + side + "1", 1);
        }
    }

    private static void bargeMiddleHasNoFigure() {
        barge("m", NONE);
        barge("m0", 1);
        barge("m1", 1);
    }

    private static void bargeEightBenches() {
        barge("mmmmmmmm", NONE);
        barge("mmmmmmmmm", 8);
        barge("l1r2l3r4l5r6l7r8", NONE);
        barge("l1r2l3r4l5r6l7r8 l9", 17);
        barge("l1r2l3r4l5r6l7r8r", 16);
        barge("mmmmmmmm g10", NONE);
        barge("mmmmmmmm g10 m", 13);
    }

    // "Then GUESTS (none, or 7 at most ..): a letter, the WEIGHT (1 .. 9, one figure), KIN (0 .., 1 .., one figure)"

    private static void bargeWeights() {
        for (char letter : "gauchk".toCharArray()) {
            barge("m" + letter + "00", 2);
            barge("m" + letter + "10", NONE);
            barge("m" + letter + "91", NONE);
            barge("m" + letter + ":0", 2);
            barge("m" + letter + "/0", 2);
            barge("m" + letter + "m", 2);
        }
    }

    private static void bargeKin() {
        for (char letter : "gauchk".toCharArray()) {
            barge("m" + letter + "1/", 3);
            barge("m" + letter + "10", NONE);
            barge("m" + letter + "11", NONE);
            barge("m" + letter + "12", 3);
            barge("m" + letter + "19", 3);
            barge("m" + letter + "100", 4);
            barge("m" + letter + "1" + letter, 3);
        }
    }

    private static void bargeSevenGuests() {
        String seven = "g10a10u10c10h10k10g10";
        barge("m" + seven, NONE);
        barge("m" + seven + "g10", 22);
        barge("m" + seven + "  k", 24);
        barge("m" + seven + "c", 22);
        barge("l1l1l1l1l1l1l1l1" + seven + " ".repeat(23), NONE);
        barge("m", NONE);
    }

    private static void bargeBenchBehindAGuest() {
        barge("m g10 m", 6);
        barge("m g10 l1", 6);
        barge("m g10r1", 5);
    }

    private static void bargeGuestAheadOfAllBenches() {
        for (char letter : "gauchk".toCharArray()) {
            barge(letter + "10 m", 0);
            barge("  " + letter, 2);
        }
    }

    private static void bargeOtherLetters() {
        for (char other : "LRMGAUCHKstbdx1909".toCharArray()) {
            barge("" + other, 0);
            barge("m " + other, 2);
            barge("mg10 " + other, 5);
        }
        barge("m\u00ed", 1);
        barge("\u0080", 0);
        barge("\u00ff", 0);
    }

    /** "the TEXT's size, if its end comes too early" */
    private static void bargeEndsTooEarly() {
        barge("l", 1);
        barge("  r", 3);
        barge("m g", 3);
        barge("m g1", 4);
        barge("m " + " ".repeat(57) + "g", 60);
        barge("m " + " ".repeat(56) + "g1", 60);
        barge("m " + " ".repeat(55) + "g10", NONE);
    }

    /** "A FAULT is the first place at which it can't go on so" */
    private static void bargeFirstFaultIsTold() {
        barge("x l0 g", 0);
        barge("l0 x", 1);
        barge("m g00 x", 3);
    }

    private static void rite(String signs, int fault) {
        Scene told = Scene.full().text(3, signs);
        Edge.answers("fault of '" + signs + "' as a RITE", told, x -> x.fault(3, true), fault);
        if (fault == NONE) {
            Edge.answers("'" + signs + "' is taken", told, x -> x.rite(3) > 0 ? 1 : 0, 1);
        } else {
            Edge.state("'" + signs + "' is not taken", told, x -> x.rite(3));
        }
    }

    // "A RITE .. is a TEXT of MINUTES (40 at most; 1 at least): s (115) .., t (116) .., k (107) .., blanks ahead,
    // between, behind as many as wanted. A FAULT likewise (another byte, a forty-first MINUTE: its place; blanks
    // alone: the TEXT's size)."

    private static void riteBlanks() {
        rite("stk", NONE);
        rite("  s  t  k  ", NONE);
        rite(" ".repeat(59) + "k", NONE);
        rite("t" + " ".repeat(59), NONE);
        rite("", 0);
        rite(" ", 1);
        rite(" ".repeat(60), 60);
    }

    private static void riteFortyMinutes() {
        rite(FORTY, NONE);
        rite(FORTY + " ".repeat(20), NONE);
        rite(FORTY + "s", 40);
        rite(FORTY + " ".repeat(19) + "t", 59);
        rite(FORTY + "kk", 40);
        rite(FORTY + "x", 40);
    }

    private static void riteOneMinute() {
        rite("s", NONE);
        rite("t", NONE);
        rite("k", NONE);
    }

    private static void riteOtherBytes() {
        for (char other : "STKrujlg01\t\0\u00f3\u00ff".toCharArray()) {
            rite("" + other, 0);
            rite("s " + other, 2);
        }
        rite("x s y", 0);
    }

    // 11 "A BARGE by a TEXT (anew; nobody seated, no QUARRELS, DEEDS, kept BARGES; LIMIT, RAIN, the RITE stay): how
    // many BENCHES. BAD; NOTHING; STATE: a FAULT. (STATE behind NOTHING.)"

    private static void bargeAnswersHowManyBenches() {
        Edge.answers("one", Scene.empty().text(0, "l9"), x -> x.barge(0), 1);
        Edge.answers("eight", Scene.empty().text(0, "mmmmmmmm"), x -> x.barge(0), 8);
        Edge.answers("eight, and seven GUESTS",
                Scene.empty().text(0, "mmmmmmmm g10 g10 g10 g10 g10 g10 g10"), x -> x.barge(0) * 10 + x.count(1), 87);
        Edge.answers("no GUESTS", Scene.empty().text(0, "mm"), x -> x.barge(0) * 10 + x.count(1), 20);
    }

    private static Scene anew() {
        return Scene.full().text(3, "l2 r1 m r3 g51 a40 u30 c21 h60 k41").then(x -> x.barge(3));
    }

    private static void bargeIsAnew() {
        Edge.answers("nobody seated", anew(), x -> x.count(2), 0);
        for (int g = 0; g < 6; g++) {
            int who = g;
            Edge.tells("GUEST " + g + " is not seated", anew(), x -> x.guest(who, 3), 1, NONE);
        }
        for (int b = 0; b < 4; b++) {
            int bench = b;
            Edge.tells("nobody on BENCH " + b, anew(), x -> x.bench(bench, 3), 1, 0);
            Edge.tells("no SEAT taken on BENCH " + b, anew(), x -> x.bench(bench, 1), 1, 0);
        }
        Edge.answers("no QUARRELS", anew(), x -> x.count(8), 0);
        Edge.answers("those who quarrelled may sit", anew(), x -> x.seat(0, 0) + x.seat(4, 0) + x.seat(1, 1) + x.seat(5, 1), 2);
        Edge.answers("no DEEDS", anew(), x -> x.count(9), 0);
        Edge.state("nothing to be undone", anew(), x -> x.undo());
        for (int k = 0; k <= 2; k++) {
            int place = k;
            Edge.finds("no kept BARGE " + k, anew(), x -> x.on(place), Edge.NOTHING);
        }
        Scene children = Scene.full().text(3, "m c10 c10 c10").then(x -> x.barge(3)).seats(0, 0, 0);
        Edge.tells("CHILDREN, where others were, take no SEATS", children, x -> x.bench(0, 1), 1, 0);
        Scene fewer = Scene.full().text(3, "r7 k91").then(x -> x.barge(3));
        Edge.bad("a BENCH that there was", fewer, x -> x.bench(1, 0));
        Edge.bad("a GUEST that there was", fewer, x -> x.guest(1, 0));
        Edge.tells("another X", fewer, x -> x.bench(0, 0), 1, 7);
        Edge.tells("another KIND", fewer, x -> x.guest(0, 0), 1, 5);
    }

    private static void bargeLetsLimitRainRiteStay() {
        Edge.answers("LIMIT", anew(), x -> x.limit(0), 7);
        Edge.tells("RAIN", anew(), x -> x.rain(0), 1, -3);
        Edge.answers("the RITE", anew(), x -> x.count(3), 3);
        Edge.answers("ROWS", anew(), x -> x.count(6), 3);
        Edge.answers("TEXTS", anew(), x -> x.count(7), 4);
        Edge.tells("asked()", anew(), x -> x.finding(), 4, 12);
    }

    private static void bargeIsRefused() {
        Edge.bad("barge(-1)", Scene.full(), x -> x.barge(-1));
        Edge.bad("barge(4)", Scene.full(), x -> x.barge(4));
        Edge.finds("barge(3) missing", Scene.full(), x -> x.barge(3), Edge.NOTHING);
        Edge.state("barge(1) that is a RITE", Scene.full(), x -> x.barge(1));
        Edge.state("barge(2) of no bytes", Scene.full(), x -> x.barge(2));
        Edge.state("a FAULT at the last byte", Scene.full().text(3, "r7 k92"), x -> x.barge(3));
    }

    private static void bargeIsNotItsText() {
        Scene changed = Scene.barge("r7 k91").text(0, "l1 l2 l3");
        Edge.answers("count(0)", changed, x -> x.count(0), 1);
        Edge.tells("bench(0, 0)", changed, x -> x.bench(0, 0), 1, 7);
    }

    // 12 "The RITE by a TEXT (anew): how many MINUTES. BAD; NOTHING; STATE: a FAULT. (STATE behind NOTHING.)"

    private static void riteAnswersHowManyMinutes() {
        Edge.answers("one", Scene.empty().text(0, " k "), x -> x.rite(0), 1);
        Edge.answers("forty", Scene.empty().text(0, FORTY), x -> x.rite(0), 40);
        Edge.answers("thirty-nine", Scene.empty().text(0, FORTY.substring(1)), x -> x.rite(0), 39);
    }

    private static void riteIsAnew() {
        Scene one = Scene.full().text(3, FORTY).then(x -> x.rite(3)).text(3, "t").then(x -> x.rite(3));
        Edge.answers("one behind forty", one, x -> x.count(3), 1);
        Edge.tells("its POSTURE", one.then(x -> x.limit(0)), x -> x.when(), 0, 8);
        Edge.answers("they sit on", one, x -> x.count(2), 4);
        Edge.answers("QUARRELS stay", one, x -> x.count(8), 2);
        Edge.answers("DEEDS stay", one, x -> x.count(9), 7);
        Edge.answers("kept BARGES stay", one, x -> x.on(2), 3);
        Edge.answers("without BENCHES", Scene.empty().text(0, "stk"), x -> x.rite(0), 3);
    }

    private static void riteIsRefused() {
        Edge.bad("rite(-1)", Scene.full(), x -> x.rite(-1));
        Edge.bad("rite(4)", Scene.full(), x -> x.rite(4));
        Edge.finds("rite(3) missing", Scene.full(), x -> x.rite(3), Edge.NOTHING);
        Edge.state("rite(0) that is a BARGE", Scene.full(), x -> x.rite(0));
        Edge.state("rite(2) of no bytes", Scene.full(), x -> x.rite(2));
    }
}
