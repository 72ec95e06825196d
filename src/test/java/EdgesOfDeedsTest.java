/** Promises 20 to 25: each boundary that the document names for SEATS, QUARRELS, DEEDS, kept BARGES. */
public final class EdgesOfDeedsTest {
    private static final int MOST = Edge.MOST, LEAST = Edge.LEAST, NONE = HeavierSide.NONE;

    public static void main(String[] args) {
        seatAnswersTheBench();
        seatFromAnotherBench();
        seatWhereItSitsAlready();
        seatTwoOnABench();
        seatOfAChildTakesNone();
        seatByQuarrelsOnOneBench();
        seatByQuarrelsOnBenchesNextToIt();
        seatByQuarrelsAtTheOutermostBenches();
        seatByQuarrelsWithThoseNotSeated();
        seatIsRefused();
        riseAnswersTheBench();
        riseIsRefused();
        changeOfTwo();
        changeOfOneNotSeated();
        changeOnOneBench();
        changeBySeats();
        changeByQuarrelsWithOthers();
        changeByQuarrelsOfBoth();
        changeIsRefused();
        undoTellsTheSort();
        undoLastFirst();
        undoSixty();
        undoWhateverQuarrels();
        undoIsNoDeed();
        refusedIsNoDeed();
        undoIsRefused();
        keepHowManyAreSeated();
        keepInEachPlace();
        keepIsRefused();
        onAsItWasKept();
        onNoDeedsThen();
        onWhateverQuarrels();
        onIsRefused();
        Due.end();
    }

    private static void sits(String what, Scene scene, int g, int b) {
        Edge.tells(what + ": where GUEST " + g + " sits", scene, x -> x.guest(g, 3), 1, b);
    }

    // 20 "A GUEST is seated on a BENCH (from another one, perhaps): the BENCH. BAD; STATE: it sits there already, no
    // SEAT is free, or a QUARREL."

    private static Scene eight() {
        return Scene.barge("l4 l3 l2 l1 r1 r2 r3 r4 g10 g10 g10 c10 c10 c10 g10");
    }

    private static void seatAnswersTheBench() {
        for (int b = 0; b < 8; b++) {
            int bench = b;
            Edge.answers("seat(0, " + b + ")", eight(), x -> x.seat(0, bench), b);
            Edge.answers("seat(6, " + b + ")", eight(), x -> x.seat(6, bench), b);
            sits("seat(6, " + b + ")", eight().then(x -> x.seat(6, bench)), 6, b);
        }
        Edge.tells("asked() stays", Scene.full(), x -> x.seat(4, 3), 3, 12);
    }

    private static void seatFromAnotherBench() {
        Scene moved = eight().seats(0, 0).then(x -> x.seat(0, 7));
        sits("it came", moved, 0, 7);
        Edge.tells("it left", moved, x -> x.bench(0, 3), 1, 2);
        Edge.answers("one seated as ahead", moved, x -> x.count(2), 2);
        Edge.answers("one DEED more", moved, x -> x.count(9), 3);
        Edge.answers("next to where it was", eight().seats(3), x -> x.seat(0, 4), 4);
    }

    private static void seatWhereItSitsAlready() {
        Edge.state("it sits there already", eight().seats(3), x -> x.seat(0, 3));
        Edge.state("a CHILD likewise", eight().seats(-1, -1, -1, 3), x -> x.seat(3, 3));
    }

    /** "A BENCH has two SEATS" */
    private static void seatTwoOnABench() {
        Edge.answers("the second", eight().seats(3), x -> x.seat(1, 3), 3);
        Edge.state("a third", eight().seats(3, 3), x -> x.seat(2, 3));
        Edge.state("a third from another BENCH", eight().seats(3, 3, 4), x -> x.seat(2, 3));
        Edge.answers("on the next BENCH", eight().seats(3, 3), x -> x.seat(2, 4), 4);
        Edge.answers("one SEAT is free again", eight().seats(3, 3).then(x -> x.rise(0)), x -> x.seat(2, 3), 3);
        Edge.answers("one SEAT is free by seat()", eight().seats(3, 3).seats(4), x -> x.seat(2, 3), 3);
    }

    /** "a CHILD takes none" */
    private static void seatOfAChildTakesNone() {
        Edge.answers("onto a full BENCH", eight().seats(3, 3), x -> x.seat(3, 3), 3);
        Edge.answers("a third CHILD", eight().seats(3, 3, -1, 3, 3), x -> x.seat(5, 3), 3);
        Edge.answers("two behind three CHILDREN", eight().seats(-1, -1, -1, 3, 3, 3), x -> x.seat(0, 3) + x.seat(1, 3), 6);
        Edge.state("but no third", eight().seats(3, 3, -1, 3), x -> x.seat(2, 3));
    }

    // "QUARRELS .. are of two GUESTS who may not sit on one BENCH, nor on BENCHES next to one another (by numbers)."

    private static void seatByQuarrelsOnOneBench() {
        Edge.state("on one BENCH", eight().quarrel(0, 1).seats(3), x -> x.seat(1, 3));
        Edge.state("told the other way", eight().quarrel(1, 0).seats(3), x -> x.seat(1, 3));
        Edge.state("a CHILD, too", eight().quarrel(0, 3).seats(3), x -> x.seat(3, 3));
        Edge.state("the last GUEST", eight().quarrel(6, 0).seats(3), x -> x.seat(6, 3));
        Edge.state("the last GUEST told last", eight().quarrel(0, 6).seats(3), x -> x.seat(6, 3));
        Scene twoFoes = eight().seats(-1, 1, 6);
        for (int bench : new int[] {1, 6}) {
            Edge.state("either of two foes", twoFoes.quarrel(0, 1).quarrel(0, 2), x -> x.seat(0, bench));
            Edge.state("told the other way", twoFoes.quarrel(1, 0).quarrel(2, 0), x -> x.seat(0, bench));
        }
        Edge.answers("another one may", eight().quarrel(0, 1).seats(3), x -> x.seat(2, 3), 3);
    }

    private static void seatByQuarrelsOnBenchesNextToIt() {
        Scene foe = eight().quarrel(0, 1).seats(3);
        Edge.answers("two below", foe, x -> x.seat(1, 1), 1);
        Edge.state("next below", foe, x -> x.seat(1, 2));
        Edge.state("next above, across the aisle", foe, x -> x.seat(1, 4));
        Edge.answers("two above", foe, x -> x.seat(1, 5), 5);
        Scene byNumbers = Scene.barge("l1 r9 l1 g10 g10").quarrel(0, 1).seats(0);
        Edge.state("by numbers, not by X", byNumbers, x -> x.seat(1, 1));
        Edge.answers("by numbers, alike X", byNumbers, x -> x.seat(1, 2), 2);
        Edge.state("from another BENCH", foe.seats(-1, 7), x -> x.seat(1, 4));
    }

    private static void seatByQuarrelsAtTheOutermostBenches() {
        Edge.state("0 and 1", eight().quarrel(0, 1).seats(0), x -> x.seat(1, 1));
        Edge.state("1 and 0", eight().quarrel(0, 1).seats(1), x -> x.seat(1, 0));
        Edge.state("7 and 6", eight().quarrel(0, 1).seats(7), x -> x.seat(1, 6));
        Edge.state("6 and 7", eight().quarrel(0, 1).seats(6), x -> x.seat(1, 7));
        Edge.answers("0 and 7 are far apart", eight().quarrel(0, 1).seats(0), x -> x.seat(1, 7), 7);
    }

    private static void seatByQuarrelsWithThoseNotSeated() {
        Edge.answers("a foe who is not seated", eight().quarrel(0, 1), x -> x.seat(1, 0), 0);
        Edge.answers("a foe who has risen", eight().quarrel(0, 1).seats(0).then(x -> x.rise(0)), x -> x.seat(1, 0), 0);
        Edge.state("the eighth QUARREL", eight().quarrel(1, 2).quarrel(1, 2).quarrel(1, 2).quarrel(1, 2).quarrel(1, 2)
                .quarrel(1, 2).quarrel(1, 2).quarrel(0, 6).seats(0), x -> x.seat(6, 1));
    }

    private static void seatIsRefused() {
        for (int g : new int[] {LEAST, -1, 7, MOST}) {
            Edge.bad("seat(" + g + ", 0)", eight().seats(0), x -> x.seat(g, 0));
        }
        for (int b : new int[] {LEAST, NONE, -1, 8, MOST}) {
            Edge.bad("seat(0, " + b + ")", eight().seats(0), x -> x.seat(0, b));
        }
        Edge.bad("seat(0, 0) without GUESTS", Scene.barge("m"), x -> x.seat(0, 0));
        Edge.bad("seat(0, 0) without BENCHES", Scene.empty(), x -> x.seat(0, 0));
    }

    // 21 "A GUEST rises: the BENCH on which it sat. BAD; STATE: it is not seated."

    private static void riseAnswersTheBench() {
        Edge.answers("from the first", eight().seats(0), x -> x.rise(0), 0);
        Edge.answers("from the last", eight().seats(-1, -1, -1, -1, -1, -1, 7), x -> x.rise(6), 7);
        sits("it rose", eight().seats(4).then(x -> x.rise(0)), 0, NONE);
        Edge.tells("its neighbour sits on", eight().seats(4, 4).then(x -> x.rise(0)), x -> x.bench(4, 3), 1, 2);
    }

    private static void riseIsRefused() {
        Edge.state("it is not seated", eight(), x -> x.rise(0));
        Edge.state("it has risen already", eight().seats(3).then(x -> x.rise(0)), x -> x.rise(0));
        for (int g : new int[] {LEAST, -1, 7, MOST}) {
            Edge.bad("rise(" + g + ")", eight().seats(0), x -> x.rise(g));
        }
    }

    // 22 "Two GUESTS who are seated change BENCHES: 1. BAD: also alike; STATE: one is not, both sit on one BENCH, no
    // SEAT would be free, or a QUARREL (of either, both being there)."

    private static void changeOfTwo() {
        Scene changed = eight().seats(0, 7).then(x -> x.change(0, 1));
        Edge.answers("change(0, 1)", eight().seats(0, 7), x -> x.change(0, 1), 1);
        sits("change(0, 1)", changed, 0, 7);
        sits("change(0, 1)", changed, 1, 0);
        Edge.answers("the first and the last GUEST",
                eight().seats(0, -1, -1, -1, -1, -1, 7), x -> x.change(6, 0), 1);
        Edge.answers("one DEED", changed, x -> x.count(9), 3);
        Edge.tells("asked() stays", Scene.full(), x -> x.change(0, 1), 1, 12);
    }

    private static void changeOfOneNotSeated() {
        Edge.state("the second is not", eight().seats(0), x -> x.change(0, 1));
        Edge.state("the first is not", eight().seats(0), x -> x.change(1, 0));
        Edge.state("neither is", eight(), x -> x.change(0, 1));
    }

    private static void changeOnOneBench() {
        Edge.state("both on one BENCH", eight().seats(0, 0), x -> x.change(0, 1));
        Edge.state("a CHILD and another", eight().seats(0, -1, -1, 0), x -> x.change(0, 3));
    }

    private static void changeBySeats() {
        Scene full = eight().seats(0, 0, 1, 0);
        Edge.state("onto a full BENCH for a CHILD", full, x -> x.change(2, 3));
        Edge.state("told the other way", full, x -> x.change(3, 2));
        Scene both = eight().seats(0, 0, 1, -1, -1, -1, 1);
        Edge.answers("two full BENCHES", both, x -> x.change(0, 2), 1);
        Edge.answers("two CHILDREN of full BENCHES", both.seats(-1, -1, -1, 0, 1), x -> x.change(3, 4), 1);
        Edge.answers("one SEAT is free for a CHILD's", eight().seats(0, -1, 1, 0), x -> x.change(2, 3), 1);
    }

    private static void changeByQuarrelsWithOthers() {
        Scene scene = eight().seats(0, 4, 5);
        Edge.answers("without QUARRELS", scene, x -> x.change(0, 1), 1);
        Edge.state("the first comes next to a foe", scene.quarrel(0, 2), x -> x.change(0, 1));
        Edge.state("told the other way", scene.quarrel(2, 0), x -> x.change(1, 0));
        Scene ahead = eight().seats(0, 4, 1);
        Edge.state("the second comes next to a foe", ahead.quarrel(1, 2), x -> x.change(0, 1));
        Edge.answers("the second goes from a foe", scene.quarrel(1, 2), x -> x.change(0, 1), 1);
        Scene third = eight().seats(0, 7, 3, -1, -1, -1, 4).quarrel(2, 6);
        Edge.answers("a QUARREL of others that is broken", third, x -> x.change(0, 1), 1);
        Scene onIt = eight().seats(0, 4, 4).quarrel(0, 2);
        Edge.state("a foe on the BENCH itself", onIt, x -> x.change(0, 1));
        Edge.state("next below", eight().seats(0, 4, 3).quarrel(0, 2), x -> x.change(0, 1));
        Edge.answers("two below", eight().seats(0, 4, 2).quarrel(0, 2), x -> x.change(0, 1), 1);
    }

    private static void changeByQuarrelsOfBoth() {
        Edge.answers("foes far apart", eight().seats(0, 2).quarrel(0, 1), x -> x.change(0, 1), 1);
        Edge.state("foes next to one another", eight().seats(0, 1).quarrel(0, 1), x -> x.change(0, 1));
        Edge.state("told the other way", eight().seats(0, 1).quarrel(0, 1), x -> x.change(1, 0));
    }

    private static void changeIsRefused() {
        for (int g : new int[] {LEAST, -1, 7, MOST}) {
            Edge.bad("change(" + g + ", 0)", eight().seats(0, 1), x -> x.change(g, 0));
            Edge.bad("change(0, " + g + ")", eight().seats(0, 1), x -> x.change(0, g));
            Edge.bad("change(" + g + ", " + g + ")", eight().seats(0, 1), x -> x.change(g, g));
        }
        Edge.bad("alike", eight().seats(0, 1), x -> x.change(1, 1));
        Edge.bad("alike and not seated", eight(), x -> x.change(1, 1));
    }

    // 23 "The last DEED is undone: which sort it was (0 seat(), 1 rise(), 2 change()). STATE: none is kept in mind."
    // "DEEDS are seat(), rise(), change(): each that was done can be undone, the last first (60 at most are kept in
    // mind; a further one makes the first of all be forgotten)."

    private static void undoTellsTheSort() {
        Scene seated = eight().seats(5);
        Edge.answers("seat()", seated, x -> x.undo(), 0);
        sits("seat() undone", seated.then(x -> x.undo()), 0, NONE);
        Edge.answers("seat() from another BENCH", seated.seats(2), x -> x.undo(), 0);
        sits("seat() from another BENCH undone", seated.seats(2).then(x -> x.undo()), 0, 5);
        Edge.answers("rise()", seated.then(x -> x.rise(0)), x -> x.undo(), 1);
        sits("rise() undone", seated.then(x -> x.rise(0)).then(x -> x.undo()), 0, 5);
        Scene changed = seated.seats(-1, 1).then(x -> x.change(1, 0));
        Edge.answers("change()", changed, x -> x.undo(), 2);
        sits("change() undone", changed.then(x -> x.undo()), 0, 5);
        sits("change() undone", changed.then(x -> x.undo()), 1, 1);
        Edge.tells("asked() stays", Scene.full(), x -> x.undo(), 0, 12);
    }

    private static void undoLastFirst() {
        HeavierSide x = eight().seats(0, 1).then(y -> y.change(0, 1)).then(y -> y.rise(0)).make();
        int[] sorts = {1, 2, 0, 0, HeavierSide.STATE};
        for (int i = 0; i < sorts.length; i++) {
            Due.is("undo() " + i, x.undo(), sorts[i]);
            Due.is("DEEDS left", x.count(9), Math.max(0, 3 - i));
        }
        Due.is("nobody seated", x.count(2), 0);
    }

    private static Scene deeds(int n) {
        Scene scene = Scene.barge("l1 r1 g10");
        for (int i = 0; i < n; i++) {
            int bench = i % 2;
            scene = scene.then(x -> x.seat(0, bench));
        }
        return scene;
    }

    private static void undoSixty() {
        for (int n : new int[] {59, 60, 61, 62, 120}) {
            HeavierSide x = deeds(n).make();
            int kept = Math.min(60, n);
            Due.is("DEEDS kept of " + n, x.count(9), kept);
            for (int i = 1; i <= kept; i++) {
                Due.is("undo() " + i + " of " + n, x.undo(), 0);
                Due.tells("undone " + i + " of " + n, x, x.guest(0, 3), 1, i == n ? NONE : (n - i + 1) % 2);
            }
            Due.is("no more of " + n, x.undo(), HeavierSide.STATE);
            x.guest(0, 3);
            Due.is("where it sits behind them, of " + n, x.asked(), n <= 60 ? NONE : (n - 61) % 2);
        }
        sixtyUnlikeOnes();
        Edge.answers("the first of all is forgotten, not the last",
                deeds(60).then(x -> x.rise(0)), x -> x.undo() * 100 + x.count(9), 159);
    }

    /** Two are seated, then 20 times one changes, rises, is seated: the first two of all are forgotten. */
    private static void sixtyUnlikeOnes() {
        HeavierSide x = Scene.barge("l1 r1 g10 g20").seats(0, 1).make();
        int[] ahead = new int[60];
        int[] sorts = new int[60];
        for (int i = 0; i < 60; i++) {
            ahead[i] = sitsBoth(x);
            sorts[i] = i % 3 == 0 ? 2 : i % 3 == 1 ? 1 : 0;
            int bench = x.guest(1, 3) * x.asked();
            int answer = i % 3 == 0 ? x.change(0, 1) : i % 3 == 1 ? x.rise(1) : x.seat(1, i / 3 % 2);
            Due.is("DEED " + i, answer, i % 3 == 0 ? 1 : i % 3 == 1 ? bench : i / 3 % 2);
        }
        Due.is("sixty", x.count(9), 60);
        for (int i = 59; i >= 0; i--) {
            Due.is("undo() of DEED " + i, x.undo(), sorts[i]);
            Due.is("as ahead of DEED " + i, sitsBoth(x), ahead[i]);
        }
        Due.is("no more", x.undo(), HeavierSide.STATE);
    }

    private static int sitsBoth(HeavierSide x) {
        x.guest(0, 3);
        int first = x.asked();
        x.guest(1, 3);
        return first * 100 + x.asked();
    }

    private static void undoWhateverQuarrels() {
        Scene scene = eight().seats(0, 1).then(x -> x.rise(1)).quarrel(0, 1);
        Edge.answers("rise() undone next to a foe", scene, x -> x.undo(), 1);
        sits("next to a foe", scene.then(x -> x.undo()), 1, 1);
    }

    private static void undoIsNoDeed() {
        Scene two = eight().seats(0, 1);
        Edge.answers("one left", two, x -> x.undo() + x.count(9), 1);
        Edge.answers("then another one", two.then(x -> x.undo()).then(x -> x.seat(1, 7)), x -> x.count(9), 2);
        sits("undone to where it was", two.then(x -> x.undo()).then(x -> x.seat(1, 7)).then(x -> x.undo()), 1, NONE);
    }

    private static void refusedIsNoDeed() {
        Scene scene = eight().seats(0, 0).then(x -> x.seat(2, 0)).then(x -> x.rise(2)).then(x -> x.change(0, 1))
                .then(x -> x.seat(0, 8)).then(x -> x.undo() /* seat(1, 0) */);
        Edge.answers("count(9)", scene, x -> x.count(9), 1);
        Edge.answers("count(2)", scene, x -> x.count(2), 1);
    }

    private static void undoIsRefused() {
        Edge.state("no DEED ever", eight(), x -> x.undo());
        Edge.state("all undone", eight().seats(0).then(x -> x.undo()), x -> x.undo());
        Edge.state("no BENCHES", Scene.empty(), x -> x.undo());
        Edge.state("behind on()", Scene.full().then(x -> x.on(0)), x -> x.undo());
    }

    // 24 "Who sits where is kept in a place (0 .. 2): how many are seated. BAD; STATE: no BENCHES."

    private static void keepHowManyAreSeated() {
        Edge.answers("nobody", eight(), x -> x.keep(0), 0);
        Edge.answers("no GUESTS", Scene.barge("m"), x -> x.keep(0), 0);
        Edge.answers("one", eight().seats(0), x -> x.keep(0), 1);
        Edge.answers("all", eight().seats(0, 0, 1, 1, 1, 1, 1), x -> x.keep(0), 7);
        Edge.answers("DEEDS stay", eight().seats(0, 0).then(x -> x.keep(0)), x -> x.count(9), 2);
        Edge.tells("asked() stays", Scene.full(), x -> x.keep(1), 4, 12);
    }

    private static void keepInEachPlace() {
        HeavierSide x = eight().make();
        for (int k = 0; k <= 2; k++) {
            Due.is("seat(0, " + k + ")", x.seat(0, k), k);
            Due.is("keep(" + k + ")", x.keep(k), 1);
        }
        for (int k = 0; k <= 2; k++) {
            Due.is("on(" + k + ")", x.on(k), 1);
            Due.tells("as kept in " + k, x, x.guest(0, 3), 1, k);
        }
        Due.is("keep(0) anew", x.keep(0), 1);
        x.rise(0);
        Due.is("on(0)", x.on(0), 1);
        Due.tells("as kept anew", x, x.guest(0, 3), 1, 2);
    }

    private static void keepIsRefused() {
        for (int k : new int[] {LEAST, -1, 3, MOST}) {
            Edge.bad("keep(" + k + ")", Scene.full(), x -> x.keep(k));
            Edge.bad("keep(" + k + ") without BENCHES", Scene.empty(), x -> x.keep(k));
        }
        for (int k = 0; k <= 2; k++) {
            int place = k;
            Edge.state("keep(" + k + ") without BENCHES", Scene.empty(), x -> x.keep(place));
        }
    }

    // 25 "All sit as it was kept (no DEEDS then; whatever QUARRELS there are): how many. BAD; NOTHING."

    private static void onAsItWasKept() {
        Scene kept = eight().seats(0, 7, 3).then(x -> x.keep(1));
        Scene others = kept.then(x -> x.rise(0)).seats(-1, 2, -1, 5);
        Edge.answers("how many", others, x -> x.on(1), 3);
        int[] benches = {0, 7, 3, NONE, NONE, NONE, NONE};
        for (int g = 0; g < 7; g++) {
            sits("as kept", others.then(x -> x.on(1)), g, benches[g]);
        }
        Scene seven = eight().seats(7, 6, 5, 4, 3, 2, 1).then(x -> x.keep(0));
        for (int g = 0; g < 7; g++) {
            int who = g;
            sits("seven kept", seven.then(x -> x.rise(who)).then(x -> x.on(0)), g, 7 - g);
        }
        Edge.tells("a BENCH is left", others.then(x -> x.on(1)), x -> x.bench(5, 3), 1, 0);
        Edge.answers("nobody", eight().then(x -> x.keep(2)).seats(1, 1), x -> x.on(2), 0);
        Edge.answers("once more", others.then(x -> x.on(1)).then(x -> x.rise(1)), x -> x.on(1), 3);
        Edge.tells("asked() stays", Scene.full(), x -> x.on(0), 4, 12);
        Edge.answers("QUARRELS stay", Scene.full(), x -> x.on(0) * 10 + x.count(8), 42);
    }

    private static void onNoDeedsThen() {
        Edge.answers("count(9)", Scene.full(), x -> x.on(2) * 0 + x.count(9), 0);
        Edge.state("undo()", Scene.full().then(x -> x.on(2)), x -> x.undo());
        Edge.answers("as they sit anyway", eight().seats(1).then(x -> x.keep(0)), x -> x.on(0) * 10 + x.count(9), 10);
    }

    private static void onWhateverQuarrels() {
        Scene scene = eight().seats(4, 4, 5).then(x -> x.keep(0)).quarrel(0, 1).quarrel(1, 2).then(x -> x.rise(1));
        Edge.answers("they sit", scene, x -> x.on(0), 3);
        Edge.tells("on one BENCH", scene.then(x -> x.on(0)), x -> x.bench(4, 3), 1, 3);
    }

    private static void onIsRefused() {
        for (int k : new int[] {LEAST, -1, 3, MOST}) {
            Edge.bad("on(" + k + ")", Scene.full(), x -> x.on(k));
        }
        Edge.finds("on(1) missing", Scene.full(), x -> x.on(1), Edge.NOTHING);
        for (int k = 0; k <= 2; k++) {
            int place = k;
            Edge.finds("on(" + k + ") at first", eight().seats(0), x -> x.on(place), Edge.NOTHING);
        }
    }
}
