import java.util.Arrays;

/** Promises 1 to 7: each boundary that the document names for a new object and for ROWS. */
public final class EdgesOfRowsTest {
    private static final int MOST = Edge.MOST, LEAST = Edge.LEAST;

    public static void main(String[] args) {
        newHasNoRows();
        newHasNoTexts();
        newHasNoBenchesGuestsQuarrels();
        newHasLimitAndRainZero();
        newHasNoRite();
        rowOfNone();
        rowOfSixty();
        rowOfMoreThanSixty();
        rowOfFewerThanNone();
        rowIsThereWithZeros();
        layFirstAndLastPlace();
        layTakesAnyInt();
        layIsRefused();
        atFirstAndLastPlace();
        atIsRefused();
        tearMakesItMissing();
        tearIsRefused();
        copyOfAsManyAsThereAre();
        copyOntoItselfAsIfTakenAhead();
        copyOfNone();
        copyIsRefusedInItsOrder();
        copyBeyond();
        meanIsCut();
        meanOfTheGreatest();
        meanIsRefused();
        Due.end();
    }

    // 1 "No ROWS, TEXTS, BENCHES, GUESTS, QUARRELS; LIMIT, RAIN 0, no RITE."

    private static void newHasNoRows() {
        Edge.answers("count(6)", Scene.empty(), x -> x.count(6), 0);
        Edge.finds("tear(0)", Scene.empty(), x -> x.tear(0), Edge.NOTHING);
        Edge.finds("tear(5)", Scene.empty(), x -> x.tear(5), Edge.NOTHING);
    }

    private static void newHasNoTexts() {
        Edge.answers("count(7)", Scene.empty(), x -> x.count(7), 0);
        Edge.finds("fault(0, false)", Scene.empty(), x -> x.fault(0, false), Edge.NOTHING);
        Edge.finds("fault(3, true)", Scene.empty(), x -> x.fault(3, true), Edge.NOTHING);
    }

    private static void newHasNoBenchesGuestsQuarrels() {
        Edge.bad("bench(0, 0)", Scene.empty(), x -> x.bench(0, 0));
        Edge.bad("guest(0, 0)", Scene.empty(), x -> x.guest(0, 0));
        Edge.bad("peace(1)", Scene.empty(), x -> x.peace(1));
        Edge.answers("peace(0)", Scene.empty(), x -> x.peace(0), 0);
        for (int what : new int[] {0, 1, 2, 4, 5, 8, 9}) {
            Edge.answers("count(" + what + ")", Scene.empty(), x -> x.count(what), 0);
        }
        Edge.state("undo()", Scene.empty(), x -> x.undo());
    }

    private static void newHasLimitAndRainZero() {
        Edge.answers("limit(9)", Scene.empty(), x -> x.limit(9), 0);
        Edge.tells("rain(9)", Scene.empty(), x -> x.rain(9), 1, 0);
        for (int p = 0; p <= 2; p++) {
            int posture = p;
            Edge.tells("list(" + p + ")", Scene.empty(), x -> x.list(posture), 1, 0);
            Edge.tells("list(" + p + ") by a little RAIN", Scene.empty().rain(1), x -> x.list(posture), 0, 1);
        }
    }

    /** "A RITE (none at first: one MINUTE of SITTING)" */
    private static void newHasNoRite() {
        Edge.answers("count(3)", Scene.empty(), x -> x.count(3), 1);
        Edge.shares("minutes()", Scene.empty(), x -> x.minutes(), 1, 1, 1);
        Scene seated = Scene.barge("l2 r1 a10 u11").seats(0, 1);
        Edge.tells("worst() is SITTING", seated, x -> x.worst(), 0, 0);
    }

    // 2 "A ROW is there with n ints 0: n. BAD: also n above 60; SIZE: below 0."

    private static void rowOfNone() {
        Edge.answers("row(3, 0)", Scene.empty(), x -> x.row(3, 0), 0);
        Edge.answers("it is there", Scene.empty().row(3), x -> x.count(6), 1);
        Edge.finds("it has no places", Scene.empty().row(3), x -> x.at(3, 0), Edge.BEYOND);
    }

    private static void rowOfSixty() {
        Edge.answers("row(3, 60)", Scene.empty(), x -> x.row(3, 60), 60);
        Edge.tells("its last place", Scene.empty().then(x -> x.row(3, 60)), x -> x.at(3, 59), 1, 0);
        Edge.finds("behind it", Scene.empty().then(x -> x.row(3, 60)), x -> x.at(3, 60), Edge.BEYOND);
        Edge.answers("row(3, 1)", Scene.empty(), x -> x.row(3, 1), 1);
        Edge.answers("row(3, 59)", Scene.empty(), x -> x.row(3, 59), 59);
    }

    private static void rowOfMoreThanSixty() {
        for (int n : new int[] {61, 62, 1 << 20, MOST}) {
            Edge.bad("row(0, " + n + ")", Scene.full(), x -> x.row(0, n));
            Edge.bad("row(5, " + n + ")", Scene.full(), x -> x.row(5, n));
        }
    }

    private static void rowOfFewerThanNone() {
        for (int n : new int[] {-1, -60, LEAST}) {
            Edge.finds("row(0, " + n + ")", Scene.full(), x -> x.row(0, n), Edge.SIZE);
            Edge.finds("row(5, " + n + ")", Scene.full(), x -> x.row(5, n), Edge.SIZE);
        }
    }

    private static void rowIsThereWithZeros() {
        Edge.brings("as many again", Scene.empty().row(1, 5, 6, 7), x -> x.row(1, 3), 3, 1, 0, 0, 0);
        Edge.brings("fewer", Scene.empty().row(1, 5, 6, 7), x -> x.row(1, 2), 2, 1, 0, 0);
        Edge.brings("none", Scene.empty().row(1, 5, 6, 7), x -> x.row(1, 0), 0, 1);
        Edge.brings("more", Scene.empty().row(1, 5, 6, 7), x -> x.row(1, 4), 4, 1, 0, 0, 0, 0);
        Edge.brings("behind tear()", Scene.empty().row(1, 5, 6, 7).then(x -> x.tear(1)), x -> x.row(1, 3), 3, 1, 0, 0, 0);
        Edge.brings("fewer, then more", Scene.empty().row(1, 5, 6, 7).row(1), x -> x.row(1, 3), 3, 1, 0, 0, 0);
    }

    // 3 "Place i of a ROW is v: what it was, told by asked(): 1. BAD; NOTHING; BEYOND."

    private static void layFirstAndLastPlace() {
        Scene three = Scene.empty().row(2, 5, 6, 7);
        Edge.tells("lay(2, 0, 9)", three, x -> x.lay(2, 0, 9), 1, 5);
        Edge.brings("the first place", three, x -> x.lay(2, 0, 9), 1, 2, 9, 6, 7);
        Edge.tells("lay(2, 2, 9)", three, x -> x.lay(2, 2, 9), 1, 7);
        Edge.brings("the last place", three, x -> x.lay(2, 2, 9), 1, 2, 5, 6, 9);
        Scene sixty = Scene.empty().then(x -> x.row(2, 60)).then(x -> x.lay(2, 59, 4));
        Edge.tells("place 59 of 60", sixty, x -> x.lay(2, 59, 9), 1, 4);
    }

    private static void layTakesAnyInt() {
        for (int v : new int[] {LEAST, -1, 0, MOST}) {
            Edge.brings("lay(2, 0, " + v + ")", Scene.empty().row(2, 5), x -> x.lay(2, 0, v), 1, 2, v);
            Edge.tells("and back", Scene.empty().row(2, v), x -> x.lay(2, 0, 5), 1, v);
        }
    }

    private static void layIsRefused() {
        for (int i : new int[] {LEAST, -1, 3, 60, MOST}) {
            Edge.finds("lay(0, " + i + ", 1)", Scene.full(), x -> x.lay(0, i, 1), Edge.BEYOND);
            Edge.finds("lay(5, " + i + ", 1) missing", Scene.full(), x -> x.lay(5, i, 1), Edge.NOTHING);
            Edge.bad("lay(6, " + i + ", 1)", Scene.full(), x -> x.lay(6, i, 1));
        }
        Edge.finds("lay(1, 0, 1) without places", Scene.full(), x -> x.lay(1, 0, 1), Edge.BEYOND);
        Scene fewer = Scene.empty().row(0, 1, 2, 3).row(0, 1, 2);
        Edge.finds("a place that there was", fewer, x -> x.lay(0, 2, 1), Edge.BEYOND);
        Edge.finds("lay() behind tear()", fewer.then(x -> x.tear(0)), x -> x.lay(0, 0, 1), Edge.NOTHING);
    }

    // 4 "Place i of a ROW, told by asked(): 1. BAD; NOTHING; BEYOND."

    private static void atFirstAndLastPlace() {
        Scene two = Scene.empty().row(4, LEAST, MOST);
        Edge.tells("at(4, 0)", two, x -> x.at(4, 0), 1, LEAST);
        Edge.tells("at(4, 1)", two, x -> x.at(4, 1), 1, MOST);
        Edge.leavesAll("at(4, 1)", two, x -> x.at(4, 1));
    }

    private static void atIsRefused() {
        for (int i : new int[] {LEAST, -1, 3, 60, MOST}) {
            Edge.finds("at(0, " + i + ")", Scene.full(), x -> x.at(0, i), Edge.BEYOND);
            Edge.finds("at(5, " + i + ") missing", Scene.full(), x -> x.at(5, i), Edge.NOTHING);
            Edge.bad("at(-1, " + i + ")", Scene.full(), x -> x.at(-1, i));
        }
        Edge.finds("at(1, 0) without places", Scene.full(), x -> x.at(1, 0), Edge.BEYOND);
        Edge.finds("at() behind tear()", Scene.full().then(x -> x.tear(0)), x -> x.at(0, 0), Edge.NOTHING);
    }

    // 5 "A ROW is missing: 1. BAD; NOTHING."

    private static void tearMakesItMissing() {
        Edge.answers("tear(0)", Scene.full(), x -> x.tear(0), 1);
        Edge.answers("tear(1) without places", Scene.full(), x -> x.tear(1), 1);
        Edge.answers("one less is there", Scene.full(), x -> x.tear(1) * 10 + x.count(6), 12);
        Edge.finds("it is missing", Scene.full().then(x -> x.tear(1)), x -> x.mean(1), Edge.NOTHING);
        Edge.brings("others stay", Scene.full(), x -> x.tear(1), 1, 0, 7, -8, 9);
        Edge.answers("asked() stays", Scene.full(), x -> x.tear(0) * 100 + x.asked(), 112);
    }

    private static void tearIsRefused() {
        Edge.finds("tear(5)", Scene.full(), x -> x.tear(5), Edge.NOTHING);
        Edge.finds("tear(0) again", Scene.full().then(x -> x.tear(0)), x -> x.tear(0), Edge.NOTHING);
        Edge.bad("tear(6)", Scene.full(), x -> x.tear(6));
        Edge.bad("tear(-1)", Scene.full(), x -> x.tear(-1));
    }

    // 6 "n places of a ROW, from one on, come to those of another one (perhaps itself) from one on, as if taken
    // ahead: 1. BAD; SIZE: n below 0; NOTHING: either; BEYOND: not so many there (also with n 0, if i, j is below 0,
    // or above its size). (In this order.)"

    private static Scene twoRows() {
        return Scene.empty().row(0, 1, 2, 3, 4, 5).row(1, 6, 7);
    }

    private static void copyOfAsManyAsThereAre() {
        Edge.brings("all of the lesser one", twoRows(), x -> x.copy(1, 0, 0, 3, 2), 1, 0, 1, 2, 3, 6, 7);
        Edge.brings("as many as fit", twoRows(), x -> x.copy(0, 3, 1, 0, 2), 1, 1, 4, 5);
        Edge.brings("one, the last, to the last", twoRows(), x -> x.copy(0, 4, 1, 1, 1), 1, 1, 6, 5);
        Edge.brings("the ROW from which they come stays", twoRows(), x -> x.copy(0, 3, 1, 0, 2), 1, 0, 1, 2, 3, 4, 5);
        Scene sixty = Scene.empty().then(x -> x.row(0, 60)).then(x -> x.row(1, 60)).then(x -> x.lay(0, 59, 3))
                .then(x -> x.lay(0, 0, 2));
        Edge.tells("sixty, the last", sixty, x -> x.copy(0, 0, 1, 0, 60) * x.at(1, 59), 1, 3);
        Edge.tells("sixty, the first", sixty, x -> x.copy(0, 0, 1, 0, 60) * x.at(1, 0), 1, 2);
        Edge.finds("sixty-one", sixty, x -> x.copy(0, 0, 1, 0, 61), Edge.BEYOND);
    }

    private static void copyOntoItselfAsIfTakenAhead() {
        Edge.brings("upwards", twoRows(), x -> x.copy(0, 0, 0, 1, 4), 1, 0, 1, 1, 2, 3, 4);
        Edge.brings("downwards", twoRows(), x -> x.copy(0, 1, 0, 0, 4), 1, 0, 2, 3, 4, 5, 5);
        Edge.brings("where they are", twoRows(), x -> x.copy(0, 0, 0, 0, 5), 1, 0, 1, 2, 3, 4, 5);
    }

    private static void copyOfNone() {
        Edge.answers("at both beginnings", twoRows(), x -> x.copy(0, 0, 1, 0, 0), 1);
        Edge.answers("at both ends", twoRows(), x -> x.copy(0, 5, 1, 2, 0), 1);
        Edge.leavesAll("at both ends", twoRows(), x -> x.copy(0, 5, 1, 2, 0));
        Edge.answers("of a ROW without places", Scene.full(), x -> x.copy(1, 0, 1, 0, 0), 1);
        Edge.finds("i below 0", Scene.full(), x -> x.copy(0, -1, 2, 0, 0), Edge.BEYOND);
        Edge.finds("j below 0", Scene.full(), x -> x.copy(0, 0, 2, -1, 0), Edge.BEYOND);
        Edge.finds("i above its size", Scene.full(), x -> x.copy(0, 4, 2, 0, 0), Edge.BEYOND);
        Edge.finds("j above its size", Scene.full(), x -> x.copy(0, 0, 2, 3, 0), Edge.BEYOND);
        Edge.finds("i above the size of none", Scene.full(), x -> x.copy(1, 1, 0, 0, 0), Edge.BEYOND);
        Edge.finds("j above the size of none", Scene.full(), x -> x.copy(0, 0, 1, 1, 0), Edge.BEYOND);
    }

    private static void copyIsRefusedInItsOrder() {
        Scene full = Scene.full();
        Edge.bad("BAD ahead of SIZE", full, x -> x.copy(6, 0, 0, 0, -1));
        Edge.bad("BAD ahead of NOTHING", full, x -> x.copy(5, 0, -1, 0, 0));
        Edge.finds("SIZE ahead of NOTHING", full, x -> x.copy(5, 0, 0, 0, -1), Edge.SIZE);
        Edge.finds("SIZE ahead of NOTHING, the other", full, x -> x.copy(0, 0, 5, 0, -1), Edge.SIZE);
        Edge.finds("SIZE ahead of BEYOND", full, x -> x.copy(0, -1, 2, 9, -1), Edge.SIZE);
        Edge.finds("SIZE far below", full, x -> x.copy(0, 0, 2, 0, LEAST), Edge.SIZE);
        Edge.finds("NOTHING ahead of BEYOND", full, x -> x.copy(0, -1, 5, 0, 1), Edge.NOTHING);
        Edge.finds("NOTHING ahead of BEYOND, the other", full, x -> x.copy(5, 0, 0, 9, 1), Edge.NOTHING);
        Edge.finds("NOTHING: the first", full, x -> x.copy(4, 0, 0, 0, 0), Edge.NOTHING);
        Edge.finds("NOTHING: the second", full, x -> x.copy(0, 0, 4, 0, 0), Edge.NOTHING);
        Edge.finds("NOTHING: both", full, x -> x.copy(4, 0, 4, 0, 0), Edge.NOTHING);
    }

    private static void copyBeyond() {
        Scene full = Scene.full();
        Edge.finds("one more than there is", full, x -> x.copy(2, 0, 0, 0, 3), Edge.BEYOND);
        Edge.finds("one more than fits", full, x -> x.copy(0, 0, 2, 0, 3), Edge.BEYOND);
        Edge.finds("not so many from there on", full, x -> x.copy(0, 2, 2, 0, 2), Edge.BEYOND);
        Edge.finds("not so many places from there on", full, x -> x.copy(0, 0, 2, 1, 2), Edge.BEYOND);
        Edge.finds("i below 0", full, x -> x.copy(0, -1, 2, 0, 1), Edge.BEYOND);
        Edge.finds("j below 0", full, x -> x.copy(0, 0, 2, -1, 1), Edge.BEYOND);
        Edge.finds("as many as an int can tell", full, x -> x.copy(0, 1, 0, 1, MOST), Edge.BEYOND);
        Edge.finds("i as great as can be", full, x -> x.copy(0, MOST, 0, 0, MOST), Edge.BEYOND);
        Edge.finds("j as great as can be", full, x -> x.copy(0, 0, 0, MOST, 1), Edge.BEYOND);
        Edge.finds("i as little as can be", full, x -> x.copy(0, LEAST, 0, 0, MOST), Edge.BEYOND);
        Edge.finds("j as little as can be", full, x -> x.copy(0, 0, 0, LEAST, 0), Edge.BEYOND);
    }

    // 7 "The mean of a ROW's ints, cut, told by asked(): 1. BAD; NOTHING; NOUGHT."

    private static void meanIsCut() {
        Edge.tells("of one", Scene.empty().row(0, -7), x -> x.mean(0), 1, -7);
        Edge.tells("above 0", Scene.empty().row(0, 1, 2), x -> x.mean(0), 1, 1);
        Edge.tells("just above 0", Scene.empty().row(0, 0, 0, 2), x -> x.mean(0), 1, 0);
        Edge.tells("below 0", Scene.empty().row(0, -1, -2), x -> x.mean(0), 1, -1);
        Edge.tells("just below 0", Scene.empty().row(0, 0, 0, -2), x -> x.mean(0), 1, 0);
        Edge.leavesAll("mean(0)", Scene.full(), x -> x.mean(0));
    }

    private static void meanOfTheGreatest() {
        int[] most = new int[60];
        int[] least = new int[60];
        Arrays.fill(most, MOST);
        Arrays.fill(least, LEAST);
        Edge.tells("sixty of the greatest", Scene.empty().row(0, most), x -> x.mean(0), 1, MOST);
        Edge.tells("sixty of the least", Scene.empty().row(0, least), x -> x.mean(0), 1, LEAST);
        Edge.tells("the greatest and the least", Scene.empty().row(0, MOST, LEAST), x -> x.mean(0), 1, 0);
    }

    private static void meanIsRefused() {
        Edge.bad("mean(6)", Scene.full(), x -> x.mean(6));
        Edge.bad("mean(-1)", Scene.full(), x -> x.mean(-1));
        Edge.finds("mean(5) missing", Scene.full(), x -> x.mean(5), Edge.NOTHING);
        Edge.finds("mean(1) of none", Scene.full(), x -> x.mean(1), Edge.NOUGHT);
    }
}
