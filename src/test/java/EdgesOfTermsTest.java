import java.util.function.ToIntFunction;

/** The document's "Terms": what is refused and in which order, FINDINGS, numbers of ROWS and TEXTS. */
public final class EdgesOfTermsTest {
    private static final int BAD = HeavierSide.BAD, STATE = HeavierSide.STATE, SPENT = HeavierSide.SPENT;
    private static final int[] NO_ROWS = {Edge.LEAST, -9, -1, 6, 60, Edge.MOST};
    private static final int[] NO_TEXTS = {Edge.LEAST, -9, -1, 4, 60, Edge.MOST};

    public static void main(String[] args) {
        badAheadOfFull();
        badAheadOfState();
        badAheadOfSpent();
        badAheadOfFinding();
        stateAheadOfSpent();
        stateAheadOfFinding();
        nothingAheadOfState();
        nothingIsARowATextAKeptBarge();
        beyondIsAPlaceThatThereIsNot();
        unlikeIsAGuestOfAnotherKindOrNoNumber();
        noughtIsSharedAmongNone();
        sizeIsFewerThanNoneOrNotAsManyAsDue();
        refusalsThatAreNoFindingsAreNotCounted();
        rowsAreZeroToFive();
        textsAreZeroToThree();
        allAreMissingAtFirst();
        rowsAndTextsAreApart();
        fractionsAreInLowestTerms();
        fractionsOfNoneAreZeroByOne();
        setsAreToldByBits();
        Due.end();
    }

    private static Scene eightQuarrels() {
        Scene scene = Scene.barge("l1 r1 g10 g10");
        for (int n = 0; n < 8; n++) {
            scene = scene.quarrel(0, 1);
        }
        return scene;
    }

    private static Scene sixUnseated() {
        return Scene.barge("m c10 c10 c10 c10 c10 c10 c10").seats(0);
    }

    // "Refused is, the first of these that fits, in this order: BAD .., FULL, STATE .., SPENT .., FINDING .."

    private static void badAheadOfFull() {
        Edge.bad("a ninth QUARREL with itself", eightQuarrels(), x -> x.quarrel(1, 1));
        Edge.bad("a ninth QUARREL with nobody", eightQuarrels(), x -> x.quarrel(0, 2));
        Edge.refused("a ninth QUARREL", eightQuarrels(), x -> x.quarrel(0, 1), HeavierSide.FULL);
    }

    private static void badAheadOfState() {
        Edge.bad("keep(3) without BENCHES", Scene.empty(), x -> x.keep(3));
        Edge.bad("best(6) without BENCHES", Scene.empty(), x -> x.best(6));
        Edge.bad("where(0) without BENCHES", Scene.empty(), x -> x.where(0));
        Edge.bad("invite(0, 1, 6) without BENCHES", Scene.empty(), x -> x.invite(0, 1, 6));
        Scene full = Scene.full();
        Edge.bad("a GUEST not seated changes with itself", full, x -> x.change(4, 4));
        Edge.bad("a GUEST not seated changes with nobody", full, x -> x.change(4, 6));
        Edge.bad("a GUEST to be seated on no BENCH", full, x -> x.seat(0, 4));
        Edge.bad("a GUEST seated there, but of no number", full, x -> x.seat(-1, 1));
        Edge.bad("nobody rises", full, x -> x.rise(6));
    }

    private static void badAheadOfSpent() {
        Edge.bad("best(6) of six", sixUnseated(), x -> x.best(6));
        Edge.bad("where(7) of six", sixUnseated(), x -> x.where(7));
        Edge.bad("where(-1) of six", sixUnseated(), x -> x.where(-1));
    }

    private static void badAheadOfFinding() {
        Scene full = Scene.full();
        Edge.bad("row(6, -1)", full, x -> x.row(6, -1));
        Edge.bad("text(4, -1)", full, x -> x.text(4, -1));
        Edge.bad("copy(6, 0, 0, 0, -1)", full, x -> x.copy(6, 0, 0, 0, -1));
        Edge.bad("copy(0, 0, 6, 0, -1)", full, x -> x.copy(0, 0, 6, 0, -1));
        Edge.bad("copy(5, 0, 6, 0, 1) from a missing one", full, x -> x.copy(5, 0, 6, 0, 1));
        Edge.bad("copy(6, 0, 5, 0, 1) to a missing one", full, x -> x.copy(6, 0, 5, 0, 1));
        Edge.bad("mark(0, 6)", full, x -> x.mark(0, 6));
        Edge.bad("mark(0, 0)", full, x -> x.mark(0, 0));
        Edge.bad("invite(5, 5, 6) of missing ones", full, x -> x.invite(5, 5, 6));
        Edge.bad("invite(6, 5, 0) of missing ones", full, x -> x.invite(6, 5, 0));
    }

    private static void stateAheadOfSpent() {
        Edge.state("where() of a seated one, six being not", sixUnseated(), x -> x.where(0));
        Edge.refused("where() of another one", sixUnseated(), x -> x.where(1), SPENT);
    }

    private static void stateAheadOfFinding() {
        Edge.state("invite() of missing ROWS without BENCHES", Scene.empty(), x -> x.invite(0, 1, 2));
        Edge.state("invite() of five without BENCHES", Scene.empty().row(0, 1, 1, 1, 1, 1), x -> x.invite(0, 0, 2));
        Edge.state("invite() of no WEIGHT without BENCHES", Scene.empty().row(0, 0), x -> x.invite(0, 0, 2));
    }

    /** barge(), rite(): "(STATE behind NOTHING.)" */
    private static void nothingAheadOfState() {
        Edge.finds("barge() of a missing TEXT", Scene.full(), x -> x.barge(3), Edge.NOTHING);
        Edge.finds("rite() of a missing TEXT", Scene.full(), x -> x.rite(3), Edge.NOTHING);
        Edge.state("barge() of a TEXT without bytes", Scene.full(), x -> x.barge(2));
        Edge.state("rite() of a TEXT without bytes", Scene.full(), x -> x.rite(2));
    }

    // "FINDINGS: 1 NOTHING (a ROW, a TEXT, a kept BARGE that is missing), 2 BEYOND (a place that there is not),
    // 3 UNLIKE (a GUEST of another KIND; a number that is none), 4 NOUGHT (shared among none), 5 SIZE (fewer
    // than none; not as many as due)."

    private static void nothingIsARowATextAKeptBarge() {
        Edge.finds("a ROW that is missing", Scene.full(), x -> x.at(5, 0), 1);
        Edge.finds("a TEXT that is missing", Scene.full(), x -> x.put(3, 0, 32), 1);
        Edge.finds("a kept BARGE that is missing", Scene.full(), x -> x.on(1), 1);
    }

    private static void beyondIsAPlaceThatThereIsNot() {
        Edge.finds("a ROW's place", Scene.full(), x -> x.at(0, 3), 2);
        Edge.finds("a TEXT's place", Scene.full(), x -> x.put(2, 0, 32), 2);
        Edge.finds("places of a copy", Scene.full(), x -> x.copy(0, 0, 2, 0, 3), 2);
    }

    private static void unlikeIsAGuestOfAnotherKindOrNoNumber() {
        Edge.finds("a GUEST of another KIND", Scene.full(), x -> x.mark(0, 1), 3);
        Edge.finds("a number that is none", Scene.full(), x -> x.invite(0, 0, 3), 3);
    }

    private static void noughtIsSharedAmongNone() {
        Edge.finds("shared among none", Scene.full(), x -> x.mean(1), 4);
    }

    private static void sizeIsFewerThanNoneOrNotAsManyAsDue() {
        Edge.finds("a ROW of fewer than none", Scene.full(), x -> x.row(0, -1), 5);
        Edge.finds("a TEXT of fewer than none", Scene.full(), x -> x.text(0, -1), 5);
        Edge.finds("a copy of fewer than none", Scene.full(), x -> x.copy(0, 0, 0, 0, -1), 5);
        Edge.finds("not as many as due", Scene.full(), x -> x.invite(2, 1, 3), 5);
    }

    private static void refusalsThatAreNoFindingsAreNotCounted() {
        HeavierSide x = sixUnseated().make();
        Due.is("BAD", x.row(6, 0), BAD);
        Due.is("STATE", x.undo() + x.undo(), STATE);
        Due.is("SPENT", x.best(0), SPENT);
        Due.is("NONE", x.when(), HeavierSide.NONE);
        Due.is("finding()", x.finding(), 0);
        for (int f = 1; f <= 5; f++) {
            Due.is("findings(" + f + ")", x.findings(f), 0);
        }
    }

    // "ROWS 0 .. 5 are rows of 0 to 60 ints, TEXTS 0 .. 3 rows of 0 to 60 bytes, or missing (at first)."

    private static void noRow(String call, ToIntFunction<HeavierSide> made) {
        Edge.bad(call, Scene.full(), made);
    }

    private static void rowsAreZeroToFive() {
        for (int r : NO_ROWS) {
            noRow("row(" + r + ", 1)", x -> x.row(r, 1));
            noRow("lay(" + r + ", 0, 1)", x -> x.lay(r, 0, 1));
            noRow("at(" + r + ", 0)", x -> x.at(r, 0));
            noRow("tear(" + r + ")", x -> x.tear(r));
            noRow("copy(" + r + ", 0, 0, 0, 1)", x -> x.copy(r, 0, 0, 0, 1));
            noRow("copy(0, 0, " + r + ", 0, 1)", x -> x.copy(0, 0, r, 0, 1));
            noRow("mean(" + r + ")", x -> x.mean(r));
            noRow("best(" + r + ")", x -> x.best(r));
            noRow("leave(" + r + ")", x -> x.leave(r));
            noRow("invite(" + r + ", 2, 0)", x -> x.invite(r, 2, 0));
            noRow("invite(2, " + r + ", 0)", x -> x.invite(2, r, 0));
            noRow("invite(2, 2, " + r + ")", x -> x.invite(2, 2, r));
        }
        for (int r = 0; r <= 5; r++) {
            int row = r;
            Edge.brings("ROW " + r, Scene.empty(), x -> x.row(row, 1) + x.lay(row, 0, 8), 2, row, 8);
            Edge.answers("best(" + r + ")", Scene.barge("m"), x -> x.best(row), 0);
            Edge.answers("leave(" + r + ")", Scene.barge("m"), x -> x.leave(row), 0);
            Edge.answers("invite() by ROW " + r, Scene.barge("m").row(r, 1), x -> x.invite(row, row, row), 0);
        }
    }

    private static void textsAreZeroToThree() {
        for (int t : NO_TEXTS) {
            Edge.bad("text(" + t + ", 1)", Scene.full(), x -> x.text(t, 1));
            Edge.bad("put(" + t + ", 0, 1)", Scene.full(), x -> x.put(t, 0, 1));
            Edge.bad("fault(" + t + ", false)", Scene.full(), x -> x.fault(t, false));
            Edge.bad("fault(" + t + ", true)", Scene.full(), x -> x.fault(t, true));
            Edge.bad("barge(" + t + ")", Scene.full(), x -> x.barge(t));
            Edge.bad("rite(" + t + ")", Scene.full(), x -> x.rite(t));
        }
        for (int t = 0; t <= 3; t++) {
            int text = t;
            Edge.answers("TEXT " + t, Scene.empty(), x -> x.text(text, 1) + x.put(text, 0, 'm'), 1033);
            Edge.answers("barge(" + t + ")", Scene.empty().text(t, "mm"), x -> x.barge(text), 2);
            Edge.answers("rite(" + t + ")", Scene.empty().text(t, "stk"), x -> x.rite(text), 3);
        }
    }

    private static void allAreMissingAtFirst() {
        for (int i = 0; i <= 5; i++) {
            int r = i;
            Edge.finds("ROW " + r, Scene.empty(), x -> x.at(r, 0), Edge.NOTHING);
        }
        for (int i = 0; i <= 3; i++) {
            int t = i;
            Edge.finds("TEXT " + t, Scene.empty(), x -> x.put(t, 0, 0), Edge.NOTHING);
        }
        for (int i = 0; i <= 2; i++) {
            int k = i;
            Edge.finds("kept BARGE " + k, Scene.empty(), x -> x.on(k), Edge.NOTHING);
        }
    }

    private static void rowsAndTextsAreApart() {
        HeavierSide x = Scene.empty().row(0, 1).row(1, 2).text(0, "a").text(1, "b").make();
        x.lay(0, 0, 9);
        x.put(0, 0, 'z');
        Due.rowIs(x, "another ROW", 1, 2);
        Due.is("another TEXT", x.put(1, 0, 0), 1000 + 'b');
        x.tear(0);
        Due.rowIs(x, "another ROW behind tear()", 1, 2);
    }

    // "Fractions are told by upper(), lower(), in lowest terms, the lower number above 0 (0 by 1)."

    private static void fractionsAreInLowestTerms() {
        Edge.shares("7 of 21", Scene.empty().limit(3), x -> x.odds(0, 10), 7, 1, 3);
        Edge.shares("3 of 401", Scene.empty().limit(1), x -> x.odds(0, 200), 3, 3, 401);
        Edge.shares("1 of 1", Scene.empty(), x -> x.odds(0, 0), 1, 1, 1);
        Edge.shares("401 of 401", Scene.empty().limit(200), x -> x.odds(0, 200), 401, 1, 1);
    }

    private static void fractionsOfNoneAreZeroByOne() {
        Scene told = Scene.empty().limit(3).then(x -> x.odds(0, 10));
        Edge.shares("minutes()", told.rain(4), x -> x.minutes(), 0, 0, 1);
        Scene left = Scene.barge("l9 g90").seats(0);
        Edge.shares("odds()", left.then(x -> x.odds(0, 81)), x -> x.odds(0, 80), 0, 0, 1);
        Edge.shares("ways()", left.then(x -> x.odds(0, 81)), x -> x.ways(), 0, 0, 1);
    }

    // "Sets (of GUESTS) are told by bits."

    private static void setsAreToldByBits() {
        Scene seven = Scene.barge("m m m m g10 g10 g10 g10 g10 g10 g10").seats(0, 1, 1, 2, 2, 3, 3);
        Edge.tells("who sits on BENCH 0", seven, x -> x.bench(0, 3), 1, 1);
        Edge.tells("who sits on BENCH 3", seven, x -> x.bench(3, 3), 1, 32 + 64);
        Edge.tells("who can leave", seven, x -> x.leavers(), 127, 127);
    }
}
