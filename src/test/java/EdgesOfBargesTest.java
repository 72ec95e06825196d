/** Promises 13 to 19: each boundary that the document names for BENCHES, GUESTS, LIMIT, RAIN, QUARRELS. */
public final class EdgesOfBargesTest {
    private static final int MOST = Edge.MOST, LEAST = Edge.LEAST, NONE = HeavierSide.NONE;
    private static final String LETTERS = "gauchk";

    public static void main(String[] args) {
        benchTellsItsX();
        benchTellsSeatsTaken();
        benchTellsWhatAllWeigh();
        benchTellsWhoSitsThere();
        benchIsRefused();
        guestTellsItsKind();
        guestTellsWeightAndKin();
        guestTellsItsBench();
        guestTellsWhatItWeighs();
        guestIsRefused();
        markOfAKindThatItIs();
        markOfAnAunt();
        markOfAnUncle();
        markOfAChild();
        markOfAChoir();
        markOfACousin();
        markIsRefused();
        markTellsNothingByAsked();
        limitIsWithin();
        limitIsRefused();
        rainIsWithin();
        rainIsRefused();
        quarrelNumbers();
        quarrelOfThoseWhoSit();
        quarrelIsRefused();
        quarrelIsFull();
        peaceFromAnyNumberOn();
        peaceIsRefused();
        Due.end();
    }

    // 13 "Of a BENCH: 0 its X, 1 how many SEATS are taken, 2 what all there WEIGH, 3 who sits there (bits), all told
    // by asked(): 1. BAD."

    private static Scene eightBenches() {
        return Scene.barge("l9 l1 m r1 r9 m l5 r5 g10 u90 k91 c20 c30 c40 h50");
    }

    private static void benchTellsItsX() {
        int[] xs = {-9, -1, 0, 1, 9, 0, -5, 5};
        for (int b = 0; b < 8; b++) {
            int bench = b;
            Edge.tells("X of BENCH " + b, eightBenches(), x -> x.bench(bench, 0), 1, xs[b]);
        }
    }

    private static void benchTellsSeatsTaken() {
        Edge.tells("nobody", eightBenches(), x -> x.bench(7, 1), 1, 0);
        Edge.tells("one", eightBenches().seats(7), x -> x.bench(7, 1), 1, 1);
        Edge.tells("two", eightBenches().seats(7, 7), x -> x.bench(7, 1), 1, 2);
        Edge.tells("two, and CHILDREN", eightBenches().seats(7, 7, -1, 7, 7, 7), x -> x.bench(7, 1), 1, 2);
        Edge.tells("CHILDREN alone", eightBenches().seats(-1, -1, -1, 7, 7, 7), x -> x.bench(7, 1), 1, 0);
        Edge.tells("one behind rise()", eightBenches().seats(7, 7).then(x -> x.rise(0)), x -> x.bench(7, 1), 1, 1);
    }

    private static void benchTellsWhatAllWeigh() {
        Edge.tells("nobody", eightBenches(), x -> x.bench(0, 2), 1, 0);
        Edge.tells("an UNCLE, a COUSIN twice", eightBenches().seats(-1, 0, 0), x -> x.bench(0, 2), 1, 36);
        Edge.tells("CHILDREN, too", eightBenches().seats(0, -1, -1, 0, 0, 0), x -> x.bench(0, 2), 1, 10);
        Edge.tells("those there alone", eightBenches().seats(0, 1), x -> x.bench(0, 2), 1, 1);
    }

    private static void benchTellsWhoSitsThere() {
        Edge.tells("nobody", eightBenches(), x -> x.bench(3, 3), 1, 0);
        Edge.tells("the first", eightBenches().seats(3), x -> x.bench(3, 3), 1, 1);
        Edge.tells("the last", eightBenches().seats(-1, -1, -1, -1, -1, -1, 3), x -> x.bench(3, 3), 1, 64);
        Edge.tells("five", eightBenches().seats(3, 3, 2, 3, 3, 3), x -> x.bench(3, 3), 1, 1 + 2 + 8 + 16 + 32);
    }

    private static void benchIsRefused() {
        for (int b : new int[] {LEAST, -1, 4, 8, MOST}) {
            for (int what = 0; what <= 3; what++) {
                int told = what;
                Edge.bad("bench(" + b + ", " + what + ")", Scene.full(), x -> x.bench(b, told));
            }
        }
        Edge.bad("bench(8, 0)", eightBenches(), x -> x.bench(8, 0));
        for (int what : new int[] {LEAST, -1, 4, MOST}) {
            Edge.bad("bench(0, " + what + ")", Scene.full(), x -> x.bench(0, what));
        }
    }

    // 14 "Of a GUEST: 0 its KIND, 1 WEIGHT, 2 KIN, 3 its BENCH (NONE), 4 what it WEIGHS, all told by asked(): 1. BAD."

    private static void guestTellsItsKind() {
        for (int kind = 0; kind < 6; kind++) {
            Scene one = Scene.barge("m " + LETTERS.charAt(kind) + "10");
            Edge.tells("KIND " + kind, one, x -> x.guest(0, 0), 1, kind);
        }
    }

    private static void guestTellsWeightAndKin() {
        Edge.tells("the least WEIGHT", eightBenches(), x -> x.guest(0, 1), 1, 1);
        Edge.tells("the greatest, not twice that", eightBenches(), x -> x.guest(1, 1), 1, 9);
        Edge.tells("the bride's", eightBenches(), x -> x.guest(1, 2), 1, 0);
        Edge.tells("the groom's", eightBenches(), x -> x.guest(2, 2), 1, 1);
    }

    private static void guestTellsItsBench() {
        Edge.tells("NONE", eightBenches(), x -> x.guest(6, 3), 1, NONE);
        Edge.tells("the first", eightBenches().seats(0), x -> x.guest(0, 3), 1, 0);
        Edge.tells("the last", eightBenches().seats(7), x -> x.guest(0, 3), 1, 7);
        Edge.tells("NONE again", eightBenches().seats(7).then(x -> x.rise(0)), x -> x.guest(0, 3), 1, NONE);
    }

    private static void guestTellsWhatItWeighs() {
        for (int kind = 0; kind < 6; kind++) {
            Scene one = Scene.barge("m " + LETTERS.charAt(kind) + "90");
            Edge.tells("KIND " + kind, one, x -> x.guest(0, 4), 1, kind == 2 || kind == 5 ? 18 : 9);
        }
    }

    private static void guestIsRefused() {
        for (int g : new int[] {LEAST, -1, 6, 7, MOST}) {
            for (int what = 0; what <= 4; what++) {
                int told = what;
                Edge.bad("guest(" + g + ", " + what + ")", Scene.full(), x -> x.guest(g, told));
            }
        }
        Edge.bad("guest(7, 0)", eightBenches(), x -> x.guest(7, 0));
        Edge.bad("guest(0, 0) of none", Scene.barge("m"), x -> x.guest(0, 0));
        for (int what : new int[] {LEAST, -1, 5, MOST}) {
            Edge.bad("guest(0, " + what + ")", Scene.full(), x -> x.guest(0, what));
        }
    }

    // 15 "What a GUEST that IS of a KIND tells .. BAD: also KIND 0; UNLIKE."
    // "KINDS of GUESTS: 0 GUEST, 1 AUNT (a GUEST), 2 UNCLE (a GUEST), 3 CHILD (a GUEST), 4 CHOIR (an AUNT),
    // 5 COUSIN (an UNCLE)."

    private static void markOfAKindThatItIs() {
        for (int own = 0; own < 6; own++) {
            for (int kind = 1; kind < 6; kind++) {
                boolean is = own == kind || own == 4 && kind == 1 || own == 5 && kind == 2;
                int asked = kind;
                String what = "KIND " + own + " as " + kind;
                Scene one = Scene.barge("m " + LETTERS.charAt(own) + "50").seats(0);
                if (is) {
                    Edge.answers(what, one, x -> x.mark(0, asked), 0);
                } else {
                    Edge.finds(what, one, x -> x.mark(0, asked), Edge.UNLIKE);
                }
            }
        }
    }

    private static Scene on(String bench, String guest) {
        return Scene.barge(bench + " " + guest).seats(0);
    }

    /** "an AUNT (CHOIR, too) by how much STANDING changes THE LIST by it alone (0: not seated; perhaps below 0)" */
    private static void markOfAnAunt() {
        Edge.answers("to the right", on("r1", "a40"), x -> x.mark(0, 1), 4);
        Edge.answers("to the right, far out", on("r9", "a40"), x -> x.mark(0, 1), 4);
        Edge.answers("to the left, below 0", on("l1", "a40"), x -> x.mark(0, 1), -4);
        Edge.answers("in the middle", on("m", "a40"), x -> x.mark(0, 1), 0);
        Scene later = Scene.barge("l1 m r5 g10 a40 a30").seats(-1, 2, 0);
        Edge.answers("GUEST 1 on BENCH 2", later, x -> x.mark(1, 1), 4);
        Edge.answers("GUEST 2 on BENCH 0", later, x -> x.mark(2, 1), -3);
        Edge.answers("not seated", Scene.barge("r1 a40"), x -> x.mark(0, 1), 0);
        Edge.answers("risen", on("r1", "a40").then(x -> x.rise(0)), x -> x.mark(0, 1), 0);
        Edge.answers("a CHOIR to the right", on("r1", "h40"), x -> x.mark(0, 1), 8);
        Edge.answers("a CHOIR to the left", on("l9", "h90"), x -> x.mark(0, 1), -18);
        Edge.answers("a CHOIR in the middle", on("m", "h40"), x -> x.mark(0, 1), 0);
        Edge.answers("a CHOIR not seated", Scene.barge("r1 h40"), x -> x.mark(0, 1), 0);
        Scene two = Scene.barge("r1 r2 a40 a50").seats(0, 1).rain(9);
        Edge.answers("by it alone", two, x -> x.mark(0, 1), 4);
    }

    /** "an UNCLE (COUSIN, too) by how much KNEELING does" */
    private static void markOfAnUncle() {
        Edge.answers("to the right", on("r2", "u40"), x -> x.mark(0, 2), -8);
        Edge.answers("to the left", on("l2", "u40"), x -> x.mark(0, 2), 8);
        Edge.answers("one out, to 0", on("r1", "u40"), x -> x.mark(0, 2), -8);
        Edge.answers("in the middle", on("m", "u40"), x -> x.mark(0, 2), 0);
        Scene later = Scene.barge("l1 m r5 g10 u40 u30").seats(-1, 2, 0);
        Edge.answers("GUEST 1 on BENCH 2", later, x -> x.mark(1, 2), -8);
        Edge.answers("GUEST 2 on BENCH 0", later, x -> x.mark(2, 2), 6);
        Edge.answers("not seated", Scene.barge("r1 u40"), x -> x.mark(0, 2), 0);
        Edge.answers("a COUSIN three out", on("r3", "k40"), x -> x.mark(0, 2), -16);
        Edge.answers("a COUSIN two out, to 0", on("l2", "k40"), x -> x.mark(0, 2), 16);
        Edge.answers("a COUSIN one out, no less than 0", on("r1", "k40"), x -> x.mark(0, 2), -8);
        Edge.answers("a COUSIN one out to the left", on("l1", "k40"), x -> x.mark(0, 2), 8);
        Edge.answers("a COUSIN in the middle", on("m", "k40"), x -> x.mark(0, 2), 0);
        Edge.answers("a COUSIN not seated", Scene.barge("r1 k40"), x -> x.mark(0, 2), 0);
    }

    /** "a CHILD how many others sit on its BENCH (NONE: not seated)" */
    private static void markOfAChild() {
        Scene scene = Scene.barge("l1 r1 c10 c10 c10 g10 g10 c10");
        Edge.none("not seated", scene.seats(-1, 0), x -> x.mark(0, 3));
        Edge.answers("alone", scene.seats(0, 1), x -> x.mark(0, 3), 0);
        Edge.answers("one other", scene.seats(0, -1, -1, 0), x -> x.mark(0, 3), 1);
        Edge.answers("all others", scene.seats(0, 0, 0, 0, 0, 0), x -> x.mark(0, 3), 5);
        Edge.none("risen", scene.seats(0, 0).then(x -> x.rise(0)), x -> x.mark(0, 3));
    }

    /** "a CHOIR how far out it STANDS (0: not seated)" */
    private static void markOfAChoir() {
        Edge.answers("to the right", on("r1", "h40"), x -> x.mark(0, 4), 3);
        Edge.answers("to the left", on("l1", "h40"), x -> x.mark(0, 4), 3);
        Edge.answers("as far as can be", on("l9", "h40"), x -> x.mark(0, 4), 11);
        Edge.answers("in the middle", on("m", "h40"), x -> x.mark(0, 4), 0);
        Edge.answers("not seated", Scene.barge("r1 h40"), x -> x.mark(0, 4), 0);
    }

    /** "a COUSIN how many of its KIN are seated (others alone)" */
    private static void markOfACousin() {
        Scene scene = Scene.barge("l1 r1 m m k10 g10 u10 g11 c10 a10 h10");
        Edge.answers("nobody", scene, x -> x.mark(0, 5), 0);
        Edge.answers("itself alone", scene.seats(0), x -> x.mark(0, 5), 0);
        Edge.answers("one of the other KIN", scene.seats(0, -1, -1, 1), x -> x.mark(0, 5), 0);
        Edge.answers("one of its KIN", scene.seats(0, 1), x -> x.mark(0, 5), 1);
        Edge.answers("all", scene.seats(0, 0, 1, 1, 1, 2, 2), x -> x.mark(0, 5), 5);
        Edge.answers("all but itself", scene.seats(-1, 0, 1, 1, 1, 2, 2), x -> x.mark(0, 5), 5);
        Edge.answers("of the groom's", Scene.barge("l1 k11 g10 g11").seats(0, -1, 0), x -> x.mark(0, 5), 1);
        Edge.answers("of the groom's, not the bride's", Scene.barge("l1 k11 g10 g11").seats(0, 0), x -> x.mark(0, 5), 0);
    }

    private static void markIsRefused() {
        for (int g : new int[] {LEAST, -1, 6, MOST}) {
            for (int kind = 0; kind < 6; kind++) {
                int asked = kind;
                Edge.bad("mark(" + g + ", " + kind + ")", Scene.full(), x -> x.mark(g, asked));
            }
        }
        for (int kind : new int[] {LEAST, -1, 0, 6, MOST}) {
            for (int g = 0; g < 6; g++) {
                int who = g;
                Edge.bad("mark(" + g + ", " + kind + ")", Scene.full(), x -> x.mark(who, kind));
            }
        }
    }

    private static void markTellsNothingByAsked() {
        Edge.tells("asked() stays", Scene.full(), x -> x.mark(1, 1), -4, 12);
        Edge.leavesAll("mark(1, 1)", Scene.full(), x -> x.mark(1, 1));
    }

    // 16 "The LIMIT is v (0 .. 999): what it was. BAD."

    private static void limitIsWithin() {
        Edge.answers("limit(0)", Scene.empty().limit(999), x -> x.limit(0), 999);
        Edge.answers("limit(999)", Scene.empty(), x -> x.limit(999), 0);
        Edge.answers("limit(5) again", Scene.empty().limit(5), x -> x.limit(5), 5);
        Edge.tells("asked() stays", Scene.full(), x -> x.limit(5), 7, 12);
    }

    private static void limitIsRefused() {
        for (int v : new int[] {LEAST, -1, 1000, MOST}) {
            Edge.bad("limit(" + v + ")", Scene.full(), x -> x.limit(v));
        }
    }

    // 17 "The RAIN is v (-200 .. 200), told by asked() what it was: 1. BAD."

    private static void rainIsWithin() {
        Edge.tells("rain(200)", Scene.full(), x -> x.rain(200), 1, -3);
        Edge.tells("rain(-200)", Scene.full(), x -> x.rain(-200), 1, -3);
        Edge.tells("it was 200", Scene.empty().rain(200), x -> x.rain(0), 1, 200);
        Edge.tells("it was -200", Scene.empty().rain(-200), x -> x.rain(0), 1, -200);
    }

    private static void rainIsRefused() {
        for (int v : new int[] {LEAST, -201, 201, MOST}) {
            Edge.bad("rain(" + v + ")", Scene.full(), x -> x.rain(v));
        }
    }

    // 18 "A QUARREL of two GUESTS (who sit as they sit): its number. BAD: also alike; FULL."
    // "QUARRELS 0, 1, .. (8 at most)"

    private static Scene quarrels(int n) {
        Scene scene = Scene.barge("m m m m g10 g10 g10");
        for (int i = 0; i < n; i++) {
            scene = scene.quarrel(i % 3, (i + 1) % 3);
        }
        return scene;
    }

    private static void quarrelNumbers() {
        for (int n = 0; n < 8; n++) {
            Edge.answers("QUARREL " + n, quarrels(n), x -> x.quarrel(0, 2), n);
        }
        Edge.answers("the same two again", quarrels(1), x -> x.quarrel(0, 1), 1);
        Edge.answers("the same two the other way", quarrels(1), x -> x.quarrel(1, 0), 1);
        Edge.answers("behind peace()", quarrels(8).then(x -> x.peace(3)), x -> x.quarrel(0, 1), 3);
        Edge.tells("asked() stays", Scene.full(), x -> x.quarrel(0, 1), 2, 12);
    }

    private static void quarrelOfThoseWhoSit() {
        Scene one = Scene.barge("m m g10 g10").seats(1, 1);
        Edge.answers("on one BENCH", one, x -> x.quarrel(0, 1), 0);
        Edge.tells("they sit as they sit", one.quarrel(0, 1), x -> x.bench(1, 3), 1, 3);
        Edge.answers("DEEDS stay", one.quarrel(0, 1), x -> x.count(9), 2);
    }

    private static void quarrelIsRefused() {
        for (int g : new int[] {LEAST, -1, 6, MOST}) {
            Edge.bad("quarrel(" + g + ", 0)", Scene.full(), x -> x.quarrel(g, 0));
            Edge.bad("quarrel(0, " + g + ")", Scene.full(), x -> x.quarrel(0, g));
            Edge.bad("quarrel(" + g + ", " + g + ")", Scene.full(), x -> x.quarrel(g, g));
        }
        for (int g = 0; g < 6; g++) {
            int who = g;
            Edge.bad("quarrel(" + g + ", " + g + ")", Scene.full(), x -> x.quarrel(who, who));
        }
    }

    private static void quarrelIsFull() {
        Edge.refused("a ninth", quarrels(8), x -> x.quarrel(0, 1), HeavierSide.FULL);
        Edge.answers("eight", quarrels(8), x -> x.count(8), 8);
    }

    // 19 "QUARRELS from number n on (n 0 to how many there are: then 0) are over: how many. BAD."

    private static void peaceFromAnyNumberOn() {
        for (int n = 0; n <= 8; n++) {
            int from = n;
            Edge.answers("peace(" + n + ") of eight", quarrels(8), x -> x.peace(from), 8 - n);
            Edge.answers("left behind peace(" + n + ")", quarrels(8), x -> x.peace(from) * 0 + x.count(8), n);
        }
        Edge.answers("peace(0) of none", quarrels(0), x -> x.peace(0), 0);
        Scene last = quarrels(2).seats(0).then(x -> x.peace(1));
        Edge.state("the one ahead goes on", last, x -> x.seat(1, 0));
        Edge.answers("the last one is over", quarrels(2).seats(-1, 0).then(x -> x.peace(1)), x -> x.seat(2, 0), 0);
        Scene twice = Scene.barge("m g10 g10").quarrel(0, 1).quarrel(1, 0).seats(0);
        Edge.state("one of two alike is left", twice.then(x -> x.peace(1)), x -> x.seat(1, 0));
        Edge.answers("both are over", twice.then(x -> x.peace(0)), x -> x.seat(1, 0), 0);
    }

    private static void peaceIsRefused() {
        for (int n : new int[] {LEAST, -1, 3, MOST}) {
            Edge.bad("peace(" + n + ") of two", Scene.full(), x -> x.peace(n));
        }
        Edge.bad("peace(9) of eight", quarrels(8), x -> x.peace(9));
        Edge.bad("peace(1) of none", quarrels(0), x -> x.peace(1));
    }
}
