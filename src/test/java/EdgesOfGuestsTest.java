/** Promises 35 to 42: each boundary that the document names for who changes, leaves, is invited, is divorced. */
public final class EdgesOfGuestsTest {
    private static final int MOST = Edge.MOST, LEAST = Edge.LEAST, NONE = HeavierSide.NONE;

    public static void main(String[] args) {
        aisleTellsTwo();
        aisleIsTheFirstOfAlikeOnes();
        aisleAsChange();
        aisleIsNone();
        leaveOfNobody();
        leaveBehindEach();
        leaveBehindTheLastOne();
        leaveIsTheFirstOrder();
        leaveComesToARowAnew();
        leaveIsNone();
        leaveIsRefused();
        leaversFirstAndLast();
        leaversOfNoOrder();
        leavingIsAnew();
        inviteNobody();
        inviteFour();
        inviteWeightsAndCosts();
        inviteBySeats();
        inviteTheLeastCost();
        inviteTheFirstOfAlikeCosts();
        inviteComesToARowAnew();
        inviteIsNone();
        inviteIsRefusedInItsOrder();
        invitingIsAnew();
        farAtMost();
        farTheFirstSuchBench();
        farFromWhereItIs();
        farSeatsAndQuarrelsAside();
        farIsNone();
        farIsRefused();
        crossedFromLeftToRight();
        crossedBroken();
        crossedOfThoseSeated();
        divorceByWeight();
        divorceTheLeastOfAlikeOnes();
        divorceOfNobody();
        kinAsTheyAre();
        kinTheFewest();
        kinIsNone();
        kinIsRefused();
        allStaysAsItIs();
        Due.end();
    }

    // 35 "Which two who are seated to change (as change(); 10 times the lesser number and the greater one; the first of
    // alike ones) so that the size of THE LIST, SITTING, becomes least; that by asked(). NONE: no change makes it less."

    private static void aisleTellsTwo() {
        Edge.tells("0 and 1", Scene.barge("l1 r2 g30 g10").seats(0, 1).rain(-4), x -> x.aisle(), 1, 1);
        Edge.tells("5 and 6", Scene.barge("l1 r1 m m m g90 g90 g90 g90 g90 g50 g30").seats(2, 2, 3, 3, 4, 0, 1).rain(-2),
                x -> x.aisle(), 56, 0);
        Edge.tells("by SITTING alone", Scene.barge("l1 r2 a30 g10").seats(0, 1).rain(-4).rite("t"), x -> x.aisle(), 1, 1);
        Edge.tells("not to 0, but less", Scene.barge("l1 r1 g30 g10").seats(0, 1).rain(-1), x -> x.aisle(), 1, 1);
    }

    private static void aisleIsTheFirstOfAlikeOnes() {
        Scene alike = Scene.barge("l1 r1 g30 g30 g10 g10").seats(0, 0, 1, 1);
        Edge.tells("02 of 02, 03, 12, 13", alike, x -> x.aisle(), 2, 0);
        Scene later = Scene.barge("l1 r1 g40 g30 g10 g10").seats(0, 0, 1, 1).rain(1);
        Edge.tells("a later one that is less", later, x -> x.aisle(), 12, 0);
    }

    private static void aisleAsChange() {
        Edge.none("one is not seated", Scene.barge("l1 r1 g30 g10").seats(0), x -> x.aisle());
        Edge.none("both on one BENCH", Scene.barge("l1 r1 g30 g10").seats(0, 0), x -> x.aisle());
        Scene child = Scene.barge("l1 r1 c90 g10 g10 g10");
        Edge.none("no SEAT would be free", child.seats(0, 0, 0, 1), x -> x.aisle());
        Edge.tells("one SEAT is free", child.seats(0, 0, -1, 1), x -> x.aisle(), 3, 7);
        Edge.none("a QUARREL", Scene.barge("l1 r1 g30 g10").seats(0, 1).rain(-1).quarrel(0, 1), x -> x.aisle());
        Scene next = Scene.barge("l1 r1 g30 g10 g10").seats(0, 1, 1).rain(-2);
        Edge.tells("without a QUARREL", next, x -> x.aisle(), 1, 1);
        Edge.none("a QUARREL with a third", next.quarrel(0, 2), x -> x.aisle());
    }

    private static void aisleIsNone() {
        Edge.none("no BENCHES", Scene.empty().rain(5), x -> x.aisle());
        Edge.none("nobody seated", Scene.barge("l1 r1 g30 g10").rain(5), x -> x.aisle());
        Edge.none("THE LIST is 0", Scene.barge("l1 r1 g30 g10").seats(0, 1).rain(2), x -> x.aisle());
        Edge.none("alike is not less", Scene.barge("l1 r1 g30 g10").seats(0, 1), x -> x.aisle());
        Edge.none("more is not less", Scene.barge("l1 r1 g30 g10").seats(0, 1).rain(1), x -> x.aisle());
        Edge.none("less than STANDING alone", Scene.barge("l1 r1 a50 g40").seats(0, 1), x -> x.aisle());
        Edge.none("less than KNEELING alone", Scene.barge("m r3 u10 g20").seats(1, 0).rain(-6), x -> x.aisle());
        Edge.none("less by KNEELING alone", Scene.barge("m r3 u10 g10").seats(0, 1).rain(-4), x -> x.aisle());
    }

    // 36 "All who are seated leave, one behind the other, THE LIST, SITTING, being LEVEL behind each (behind the last one
    // THE RAIN alone): the first such order (by numbers) comes to a ROW (anew): how many leave (nobody is seated: 0, the
    // ROW has no places). NONE: there is none. BAD."

    private static void leaveOfNobody() {
        Edge.brings("no BENCHES", Scene.empty().row(0, 7, 8), x -> x.leave(0), 0, 0);
        Edge.brings("nobody seated", Scene.barge("l1 g10").row(0, 7, 8), x -> x.leave(0), 0, 0);
        Edge.brings("nobody seated, RAIN", Scene.barge("l1 g10").row(0, 7, 8).rain(9), x -> x.leave(0), 0, 0);
        Edge.answers("the ROW is there", Scene.empty(), x -> x.leave(3) + x.count(6), 1);
    }

    private static void leaveBehindEach() {
        Scene two = Scene.barge("l1 r1 g50 g50").seats(0, 1);
        Edge.none("5 is more than 4", two.limit(4).row(0, 7), x -> x.leave(0));
        Edge.brings("5 is no more than 5", two.limit(5), x -> x.leave(0), 2, 0, 0, 1);
        Scene heavy = Scene.barge("l9 g90").seats(0);
        Edge.brings("it need not be LEVEL ahead", heavy, x -> x.leave(0), 1, 0, 0);
        Scene aunts = Scene.barge("l1 r1 a50 a50").seats(0, 1).limit(5);
        Edge.brings("SITTING, whatever RITE", aunts.rite("t"), x -> x.leave(0), 2, 0, 0, 1);
        Scene uncles = Scene.barge("l2 r2 u50 u50").seats(0, 1).limit(19);
        Edge.none("SITTING, not KNEELING", uncles.rite("k"), x -> x.leave(0));
        Scene last = Scene.barge("m m m r1 r1 g10 g10 g10 g10 g10 g50 g50").seats(0, 0, 1, 1, 2, 3, 4);
        Edge.none("the last two GUESTS", last.limit(4), x -> x.leave(0));
        Edge.brings("the last two GUESTS just so", last.limit(5), x -> x.leave(0), 7, 0, 5, 0, 1, 2, 3, 4, 6);
    }

    /** "(behind the last one THE RAIN alone)" */
    private static void leaveBehindTheLastOne() {
        Scene one = Scene.barge("r1 g50").seats(0).limit(5);
        Edge.brings("RAIN 5", one.rain(5), x -> x.leave(0), 1, 0, 0);
        Edge.brings("RAIN -5", one.rain(-5), x -> x.leave(0), 1, 0, 0);
        Edge.none("RAIN 6", one.rain(6), x -> x.leave(0));
        Edge.none("RAIN -6", one.rain(-6), x -> x.leave(0));
    }

    /** MOMENTS 1, -6, 6: behind GUEST 0 it is LEVEL, but behind no one else then. */
    private static Scene deadEnd() {
        return Scene.barge("l1 r1 g10 g60 g60").seats(1, 0, 1).limit(5);
    }

    private static void leaveIsTheFirstOrder() {
        Scene seven = Scene.barge("m m m m g10 g10 g10 g10 g10 g10 g10").seats(0, 0, 1, 1, 2, 2, 3);
        Edge.brings("seven", seven, x -> x.leave(0), 7, 0, 0, 1, 2, 3, 4, 5, 6);
        Scene down = Scene.barge("r1 r1 g10 g20 g30").seats(0, 0, 1).limit(3);
        Edge.brings("as the LIMIT wants it", down, x -> x.leave(0), 3, 0, 2, 0, 1);
        Edge.brings("the last ahead", down.limit(1).then(x -> x.rise(2)), x -> x.leave(0), 2, 0, 1, 0);
        Edge.brings("LEVEL behind 0, but none can go on", deadEnd(), x -> x.leave(0), 3, 0, 2, 1, 0);
        Edge.brings("not the first by chance", Scene.barge("l1 r1 g50 g10 g50 g10").seats(0, 0, 1, 1).limit(5),
                x -> x.leave(0), 4, 0, 0, 2, 1, 3);
    }

    private static void leaveComesToARowAnew() {
        Scene one = Scene.barge("m g10 g10").seats(-1, 0);
        Edge.brings("a missing ROW", one, x -> x.leave(5), 1, 5, 1);
        Edge.brings("a greater ROW", one.row(5, 8, 8, 8), x -> x.leave(5), 1, 5, 1);
        Edge.brings("a lesser ROW", one.row(5), x -> x.leave(5), 1, 5, 1);
        Edge.tells("asked() stays", Scene.full().limit(999), x -> x.leave(5), 4, 12);
    }

    private static void leaveIsNone() {
        Edge.none("the ROW stays", Scene.barge("r1 g10 g10").seats(0, 0).row(0, 7, 8), x -> x.leave(0));
        Edge.none("the ROW stays missing", Scene.barge("r1 g10 g10").seats(0, 0), x -> x.leave(0));
    }

    private static void leaveIsRefused() {
        for (int r : new int[] {LEAST, -1, 6, MOST}) {
            Edge.bad("leave(" + r + ")", Scene.full(), x -> x.leave(r));
            Edge.bad("leave(" + r + ") of nobody", Scene.empty(), x -> x.leave(r));
        }
    }

    // 37 "Who can leave first in such an order (bits); who last by asked()."

    private static void leaversFirstAndLast() {
        Edge.tells("one", Scene.barge("r9 g90").seats(0), x -> x.leavers(), 1, 1);
        Edge.tells("the last GUEST alone", Scene.barge("m c10 c10 c10 c10 c10 c10 g10")
                .seats(-1, -1, -1, -1, -1, -1, 0), x -> x.leavers(), 64, 64);
        Scene two = Scene.barge("r1 g10 g20").seats(0, 0);
        Edge.tells("the heavier first", two.limit(1), x -> x.leavers(), 2, 1);
        Edge.tells("either", two.limit(2), x -> x.leavers(), 3, 3);
        Scene three = Scene.barge("l1 r1 g30 g20 g10").seats(0, 1, 1);
        Edge.tells("two of three", three.limit(2), x -> x.leavers(), 6, 6);
        Edge.tells("two of three by RAIN", three.limit(9).rain(9), x -> x.leavers(), 6, 1);
        Edge.tells("LEVEL behind 0, but none can go on", deadEnd(), x -> x.leavers(), 4, 1);
        Edge.tells("0 alone would be LEVEL, but can't be last", Scene.barge("l1 l1 g60 g50 g10").seats(0, 0, 1).limit(6),
                x -> x.leavers(), 1, 6);
    }

    private static void leaversOfNoOrder() {
        Edge.tells("none: 0, and 0", Scene.barge("r1 g10 g10").seats(0, 0).then(x -> x.list(0)), x -> x.leavers(), 0, 0);
        Edge.tells("each alone would be LEVEL", Scene.barge("r1 r1 g10 g10 g10").seats(0, 0, 1).limit(1),
                x -> x.leavers(), 0, 0);
        Edge.tells("nobody seated", Scene.barge("r3 g10").then(x -> x.bench(0, 0)), x -> x.leavers(), 0, 0);
        Edge.tells("no BENCHES", Scene.empty().rain(3), x -> x.leavers(), 0, 0);
        Edge.tells("by the RAIN behind the last one", Scene.barge("r1 g50").seats(0).rain(-5), x -> x.leavers(), 0, 0);
    }

    private static void leavingIsAnew() {
        HeavierSide x = Scene.barge("m m m m g10 g10 g10 g10 g10 g10 g10").seats(0, 0, 1, 1, 2, 2, 3).make();
        for (int g = 6; g >= 0; g--) {
            int left = (2 << g) - 1;
            Due.tells("leavers() of " + (g + 1), x, x.leavers(), left, left);
            Due.is("leave(0) of " + (g + 1), x.leave(0), g + 1);
            x.rise(g);
        }
        Due.tells("leavers() of nobody", x, x.leavers(), 0, 0);
        HeavierSide y = Scene.barge("r1 g10 g20").seats(0, 0).limit(2).make();
        Due.is("leave(0) by LIMIT 2", y.leave(0), 2);
        Due.rowIs(y, "by LIMIT 2", 0, 0, 1);
        y.limit(1);
        Due.is("leave(0) by LIMIT 1", y.leave(0), 2);
        Due.rowIs(y, "by LIMIT 1", 0, 1, 0);
    }

    // 38 "Cousins are invited to whom one tells WEIGHTS (a ROW, 1 .. 9 each, 4 at most) and costs (a ROW, 0 .. 99 each):
    // each is seated as of KIND 0 (they WEIGH as told; no QUARRELS; SEATS as there are), or not: the least cost so that
    // THE LIST, SITTING, is LEVEL; for each its BENCH, or NONE, comes to a ROW (anew; of alike costs the first, by the
    // first one's BENCH, .., NONE behind all BENCHES). NONE: never. BAD; STATE: no BENCHES; NOTHING: either; SIZE: more
    // than 4, or not as many; UNLIKE: either."

    private static Scene invited(Scene scene, int[] weights, int[] costs) {
        return scene.row(0, weights).row(1, costs).row(2, 7, 8);
    }

    private static int[] ints(int... values) {
        return values;
    }

    private static void inviteNobody() {
        Scene nobody = invited(Scene.barge("l1 r1"), ints(), ints());
        Edge.brings("LEVEL", nobody, x -> x.invite(0, 1, 2), 0, 2);
        Edge.none("not LEVEL", nobody.rain(1), x -> x.invite(0, 1, 2));
        Edge.brings("just LEVEL", nobody.rain(1).limit(1), x -> x.invite(0, 1, 2), 0, 2);
    }

    private static void inviteFour() {
        Scene four = invited(Scene.barge("r1 r1").rain(-10), ints(1, 2, 3, 4), ints(10, 20, 30, 40));
        Edge.brings("all four", four, x -> x.invite(0, 1, 2), 100, 2, 0, 0, 1, 1);
        Edge.finds("five", invited(Scene.barge("r1 r1"), ints(1, 2, 3, 4, 5), ints(1, 2, 3, 4, 5)),
                x -> x.invite(0, 1, 2), Edge.SIZE);
        Edge.finds("sixty", Scene.barge("r1").then(x -> x.row(0, 60)), x -> x.invite(0, 0, 2), Edge.SIZE);
    }

    private static void inviteWeightsAndCosts() {
        Scene scene = Scene.barge("r1 r9").rain(-9);
        Edge.brings("WEIGHT 1", invited(scene, ints(1), ints(99)), x -> x.invite(0, 1, 2), 99, 2, 1);
        Edge.brings("WEIGHT 9", invited(scene, ints(9), ints(0)), x -> x.invite(0, 1, 2), 0, 2, 0);
        Edge.brings("cost 0 and 99", invited(scene, ints(9, 9), ints(99, 0)), x -> x.invite(0, 1, 2), 0, 2, NONE, 0);
        for (int weight : new int[] {LEAST, -1, 0, 10, MOST}) {
            Edge.finds("WEIGHT " + weight, invited(scene, ints(1, weight), ints(1, 1)), x -> x.invite(0, 1, 2), Edge.UNLIKE);
            Edge.finds("WEIGHT " + weight + " ahead", invited(scene, ints(weight, 1), ints(1, 1)),
                    x -> x.invite(0, 1, 2), Edge.UNLIKE);
        }
        for (int cost : new int[] {LEAST, -1, 100, MOST}) {
            Edge.finds("cost " + cost, invited(scene, ints(1, 1), ints(1, cost)), x -> x.invite(0, 1, 2), Edge.UNLIKE);
            Edge.finds("cost " + cost + " ahead", invited(scene, ints(1, 1), ints(cost, 1)),
                    x -> x.invite(0, 1, 2), Edge.UNLIKE);
        }
        Edge.brings("they WEIGH as told", invited(Scene.barge("r1").rain(-5), ints(5), ints(3)), x -> x.invite(0, 1, 2), 3, 2, 0);
    }

    /** "SEATS as there are", "no QUARRELS" */
    private static void inviteBySeats() {
        Scene scene = Scene.barge("r1 m g10 g10 c10 c10").rain(-4);
        int[] two = {2, 2};
        Edge.brings("two on one BENCH", invited(scene, two, two), x -> x.invite(0, 1, 2), 4, 2, 0, 0);
        Edge.none("three on one BENCH", invited(scene.rain(-6), ints(2, 2, 2), ints(1, 1, 1)), x -> x.invite(0, 1, 2));
        Edge.none("one SEAT is taken", invited(scene.seats(0).rain(-5), two, two), x -> x.invite(0, 1, 2));
        Edge.brings("one is free", invited(scene.seats(0).rain(-3), two, two), x -> x.invite(0, 1, 2), 2, 2, 0, NONE);
        Edge.none("both are taken", invited(scene.seats(0, 0), two, two), x -> x.invite(0, 1, 2));
        Edge.brings("CHILDREN take none", invited(scene.seats(-1, -1, 0, 0).rain(-6), two, two),
                x -> x.invite(0, 1, 2), 4, 2, 0, 0);
        Edge.brings("no QUARRELS", invited(scene.seats(-1, -1, 0).quarrel(2, 3).rain(-3), ints(2), ints(1)),
                x -> x.invite(0, 1, 2), 1, 2, 0);
        Edge.brings("all SEATS being taken", invited(Scene.barge("m g10 g10").seats(0, 0), two, two),
                x -> x.invite(0, 1, 2), 0, 2, NONE, NONE);
    }

    private static void inviteTheLeastCost() {
        Edge.brings("nobody, LEVEL as it is", invited(Scene.barge("r1 m"), ints(5), ints(1)), x -> x.invite(0, 1, 2), 0, 2, NONE);
        Edge.brings("by the LIMIT", invited(Scene.barge("r1").rain(-5).limit(2), ints(3, 5), ints(4, 5)),
                x -> x.invite(0, 1, 2), 4, 2, 0, NONE);
        Edge.brings("beyond the LIMIT", invited(Scene.barge("r1").rain(-5).limit(1), ints(3, 5), ints(4, 5)),
                x -> x.invite(0, 1, 2), 5, 2, NONE, 0);
        Edge.brings("two for less than one", invited(Scene.barge("r1").rain(-5), ints(5, 2, 3), ints(9, 4, 4)),
                x -> x.invite(0, 1, 2), 8, 2, NONE, 0, 0);
        Edge.brings("SITTING, not KNEELING", invited(Scene.barge("l2 r1 u20").seats(0).rite("k"), ints(8, 4), ints(5, 1)),
                x -> x.invite(0, 1, 2), 5, 2, 1, NONE);
        Edge.brings("SITTING, whatever RITE", invited(Scene.barge("l1 r1 a20").seats(0).rite("t"), ints(2, 4), ints(5, 1)),
                x -> x.invite(0, 1, 2), 5, 2, 1, NONE);
    }

    private static void inviteTheFirstOfAlikeCosts() {
        Edge.brings("the first BENCH", invited(Scene.barge("m m"), ints(5), ints(0)), x -> x.invite(0, 1, 2), 0, 2, 0);
        Edge.brings("NONE behind all BENCHES", invited(Scene.barge("r1 m"), ints(5), ints(0)), x -> x.invite(0, 1, 2), 0, 2, 1);
        Edge.brings("NONE, if it can't be else", invited(Scene.barge("r1 l2"), ints(5), ints(0)),
                x -> x.invite(0, 1, 2), 0, 2, NONE);
        Edge.brings("by the first one's", invited(Scene.barge("r1").rain(-5), ints(5, 5), ints(3, 3)),
                x -> x.invite(0, 1, 2), 3, 2, 0, NONE);
        Edge.brings("one that costs more aside", invited(Scene.barge("r1").rain(-5), ints(5, 5), ints(4, 3)),
                x -> x.invite(0, 1, 2), 3, 2, NONE, 0);
        Edge.brings("eight BENCHES", invited(Scene.barge("r9r9r9r9r9r9r9m"), ints(1, 1), ints(0, 0)),
                x -> x.invite(0, 1, 2), 0, 2, 7, 7);
    }

    private static void inviteComesToARowAnew() {
        Scene scene = Scene.barge("m").row(0, 5, 6).row(1, 0, 1);
        Edge.brings("a missing ROW", scene, x -> x.invite(0, 1, 5), 0, 5, 0, NONE);
        Edge.brings("a greater ROW", scene.row(5, 1, 1, 1), x -> x.invite(0, 1, 5), 0, 5, 0, NONE);
        Edge.brings("that of the WEIGHTS", scene, x -> x.invite(0, 1, 0), 0, 0, 0, NONE);
        Edge.brings("that of the costs", scene, x -> x.invite(0, 1, 1), 0, 1, 0, NONE);
        Edge.brings("one ROW for both", scene.rain(-5).limit(5), x -> x.invite(0, 0, 2), 0, 2, NONE, NONE);
        Edge.tells("asked() stays", Scene.full().limit(99), x -> x.invite(2, 2, 5), 0, 12);
    }

    private static void inviteIsNone() {
        Scene far = invited(Scene.barge("r1").rain(-200), ints(9, 9, 9, 9), ints(1, 1, 1, 1));
        Edge.none("never", far, x -> x.invite(0, 1, 2));
        Edge.none("never, the ROW being missing", far, x -> x.invite(0, 1, 3));
        Edge.none("never, the WEIGHTS stay", far, x -> x.invite(0, 1, 0));
    }

    private static void inviteIsRefusedInItsOrder() {
        for (int r : new int[] {LEAST, -1, 6, MOST}) {
            Edge.bad("invite(" + r + ", 2, 3)", Scene.full(), x -> x.invite(r, 2, 3));
            Edge.bad("invite(2, " + r + ", 3)", Scene.full(), x -> x.invite(2, r, 3));
            Edge.bad("invite(2, 2, " + r + ")", Scene.full(), x -> x.invite(2, 2, r));
            Edge.bad("without BENCHES: invite(0, 0, " + r + ")", Scene.empty(), x -> x.invite(0, 0, r));
        }
        Edge.state("no BENCHES", invited(Scene.empty(), ints(1), ints(1)), x -> x.invite(0, 1, 2));
        Edge.finds("NOTHING: no WEIGHTS", Scene.full(), x -> x.invite(5, 2, 3), Edge.NOTHING);
        Edge.finds("NOTHING: no costs", Scene.full(), x -> x.invite(2, 5, 3), Edge.NOTHING);
        Edge.finds("NOTHING: neither", Scene.full(), x -> x.invite(5, 4, 3), Edge.NOTHING);
        Scene five = Scene.full().row(3, 0, 1, 1, 1, 1).row(4, 0);
        Edge.finds("NOTHING ahead of SIZE", five, x -> x.invite(3, 5, 0), Edge.NOTHING);
        Edge.finds("NOTHING ahead of UNLIKE", five, x -> x.invite(4, 5, 0), Edge.NOTHING);
        Edge.finds("NOTHING ahead of UNLIKE, the other", five, x -> x.invite(5, 4, 0), Edge.NOTHING);
        Edge.finds("SIZE: more than 4", five, x -> x.invite(3, 3, 0), Edge.SIZE);
        Edge.finds("SIZE: fewer costs", Scene.full().row(3, 1), x -> x.invite(2, 3, 0), Edge.SIZE);
        Edge.finds("SIZE: more costs", Scene.full().row(3, 1), x -> x.invite(3, 2, 0), Edge.SIZE);
        Edge.finds("SIZE: no costs", Scene.full(), x -> x.invite(2, 1, 0), Edge.SIZE);
        Edge.finds("SIZE: costs for nobody", Scene.full(), x -> x.invite(1, 2, 0), Edge.SIZE);
        Edge.finds("SIZE ahead of UNLIKE", five, x -> x.invite(4, 2, 0), Edge.SIZE);
        Edge.finds("UNLIKE: the WEIGHTS", Scene.full().row(3, 0), x -> x.invite(3, 3, 0), Edge.UNLIKE);
        Edge.finds("UNLIKE: the costs", Scene.full().row(3, 1).row(4, 100), x -> x.invite(3, 4, 0), Edge.UNLIKE);
    }

    private static void invitingIsAnew() {
        HeavierSide x = invited(Scene.barge("r1 r1").rain(-9), ints(2, 2, 2, 3), ints(1, 1, 1, 1)).make();
        for (int i = 0; i < 2; i++) {
            Due.is("four again", x.invite(0, 1, 2), 4);
            Due.rowIs(x, "four again", 2, 0, 0, 1, 1);
        }
        Due.row(x, 0, 3);
        Due.row(x, 1, 5);
        x.rain(-5);
        Due.is("one behind four", x.invite(0, 1, 2), NONE);
        x.rain(-3);
        Due.is("one, LEVEL", x.invite(0, 1, 2), 5);
        Due.rowIs(x, "one, LEVEL", 2, 0);
        Due.is("one is more than none", x.limit(3) * 0 + x.invite(0, 1, 2), 0);
    }

    // 39 "How far out (0 .. 9) at most a GUEST may sit (from where it is, or unseated; on one of the BENCHES, SEATS and
    // QUARRELS aside), so that it is LEVEL in a POSTURE; the first such BENCH by asked(). NONE: nowhere. BAD."

    private static void farAtMost() {
        Scene scene = Scene.barge("m r1 r5 r9 a20");
        Edge.tells("0", scene.limit(1), x -> x.far(0, 0), 0, 0);
        Edge.tells("1", scene.limit(2), x -> x.far(0, 0), 1, 1);
        Edge.tells("5", scene.limit(17), x -> x.far(0, 0), 5, 2);
        Edge.tells("9", scene.limit(18), x -> x.far(0, 0), 9, 3);
        Edge.tells("STANDING", scene.limit(18), x -> x.far(0, 1), 5, 2);
        Edge.tells("STANDING, how far out the BENCH is", scene.limit(20), x -> x.far(0, 1), 9, 3);
        Edge.tells("KNEELING", scene.limit(18), x -> x.far(0, 2), 9, 3);
        Edge.tells("a COUSIN KNEELING", Scene.barge("m l2 k90"), x -> x.far(0, 2), 2, 1);
        Edge.tells("farther out, but not nearer", Scene.barge("m l2 r9 g10").rain(-9), x -> x.far(0, 0), 9, 2);
    }

    private static void farTheFirstSuchBench() {
        Edge.tells("of two to the left", Scene.barge("l1 l3 l3 g10").limit(9), x -> x.far(0, 0), 3, 1);
        Edge.tells("to the right ahead", Scene.barge("l1 r3 l3 g10").limit(9), x -> x.far(0, 0), 3, 1);
        Edge.tells("such by LEVEL, too", Scene.barge("l3 r3 g10").limit(2).rain(-1), x -> x.far(0, 0), 3, 1);
        Edge.tells("the last GUEST", Scene.barge("m g10 g10 g10 g10 g10 g10 g10"), x -> x.far(6, 0), 0, 0);
        Edge.tells("the eighth BENCH", Scene.barge("mmmmmmm r1 g10").rain(-1), x -> x.far(0, 0), 1, 7);
    }

    private static void farFromWhereItIs() {
        Scene scene = Scene.barge("l2 r4 g20 g40");
        Edge.tells("seated elsewhere", scene.seats(0, 0), x -> x.far(0, 0), 4, 1);
        Edge.tells("seated there", scene.seats(1, 0), x -> x.far(0, 0), 4, 1);
        Edge.tells("unseated", scene.seats(-1, 0), x -> x.far(0, 0), 4, 1);
        Edge.tells("others unseated aside", Scene.barge("l2 m g20 g40").seats(0), x -> x.far(0, 0), 0, 1);
    }

    private static void farSeatsAndQuarrelsAside() {
        Scene full = Scene.barge("r1 m g10 g10 g10").seats(0, 0, 1).limit(9);
        Edge.tells("no SEAT is free there", full, x -> x.far(2, 0), 1, 0);
        Edge.tells("a QUARREL there", full.quarrel(0, 2).quarrel(1, 2), x -> x.far(2, 0), 1, 0);
    }

    private static void farIsNone() {
        Edge.none("nowhere", Scene.barge("r1 l1 g50").limit(4), x -> x.far(0, 0));
        Edge.none("nowhere, but unseated", Scene.barge("r1 g50"), x -> x.far(0, 0));
        Edge.none("asked() stays", Scene.full().rain(200), x -> x.far(0, 0));
    }

    private static void farIsRefused() {
        for (int v : new int[] {LEAST, -1, 6, MOST}) {
            Edge.bad("far(" + v + ", 0)", Scene.full(), x -> x.far(v, 0));
        }
        for (int v : new int[] {LEAST, -1, 3, MOST}) {
            Edge.bad("far(0, " + v + ")", Scene.full(), x -> x.far(0, v));
        }
        Edge.bad("far(0, 0) without BENCHES", Scene.empty(), x -> x.far(0, 0));
    }

    // 40 "How many QUARRELS cross the aisle: one sits to the left, one to the right of the middle; how many are broken
    // (as on() may leave them, or quarrel()) by asked()."

    private static Scene twoOn(int b, int c) {
        return Scene.barge("l9 m m r1 m l1 m r9 g10 g10").seats(b, c).quarrel(0, 1);
    }

    private static void crossedFromLeftToRight() {
        Edge.tells("left and right", twoOn(0, 7), x -> x.crossed(), 1, 0);
        Edge.tells("right and left", twoOn(7, 0), x -> x.crossed(), 1, 0);
        Edge.tells("one out each", twoOn(3, 5), x -> x.crossed(), 1, 0);
        Edge.tells("both left", twoOn(0, 5), x -> x.crossed(), 0, 0);
        Edge.tells("both right", twoOn(3, 7), x -> x.crossed(), 0, 0);
        Edge.tells("left and the middle", twoOn(0, 4), x -> x.crossed(), 0, 0);
        Edge.tells("the middle and right", twoOn(4, 7), x -> x.crossed(), 0, 0);
        Edge.tells("both in the middle", twoOn(1, 4), x -> x.crossed(), 0, 0);
        Edge.tells("no QUARRELS", twoOn(0, 7).then(x -> x.peace(0)).then(x -> x.bench(0, 0)), x -> x.crossed(), 0, 0);
        Edge.tells("one told twice", twoOn(0, 7).quarrel(1, 0), x -> x.crossed(), 2, 0);
        Scene eight = twoOn(0, 7);
        for (int n = 1; n < 8; n++) {
            eight = eight.quarrel(0, 1);
        }
        Edge.tells("all eight", eight, x -> x.crossed(), 8, 0);
    }

    private static void crossedBroken() {
        Edge.tells("on one BENCH", twoOn(3, 3), x -> x.crossed(), 0, 1);
        Edge.tells("on the next one", twoOn(3, 4), x -> x.crossed(), 0, 1);
        Edge.tells("on the one ahead", twoOn(4, 3), x -> x.crossed(), 0, 1);
        Edge.tells("two apart", twoOn(3, 5), x -> x.crossed(), 1, 0);
        Edge.tells("the first and the last BENCH", twoOn(0, 7), x -> x.crossed(), 1, 0);
        Scene next = Scene.barge("l1 r1 g10 g10").seats(0, 1).quarrel(0, 1);
        Edge.tells("broken across the aisle", next, x -> x.crossed(), 1, 1);
        Scene left = Scene.barge("l1 m r1 g10 g10").seats(0, 0).then(x -> x.keep(0)).seats(2).quarrel(0, 1);
        Edge.tells("ahead of on()", left, x -> x.crossed(), 1, 0);
        Edge.tells("as on() leaves it", left.then(x -> x.on(0)), x -> x.crossed(), 0, 1);
    }

    private static void crossedOfThoseSeated() {
        Edge.tells("one has risen", twoOn(0, 7).then(x -> x.rise(0)), x -> x.crossed(), 0, 0);
        Edge.tells("the other has risen", twoOn(3, 3).then(x -> x.rise(1)), x -> x.crossed(), 0, 0);
        Edge.tells("both have risen", twoOn(3, 3).then(x -> x.rise(1)).then(x -> x.rise(0)), x -> x.crossed(), 0, 0);
        Edge.tells("no BENCHES", Scene.empty(), x -> x.crossed(), 0, 0);
    }

    // 41 "A divorce: all GUESTS go to one of two boats: the least by which what all WEIGH on the one is more than on the
    // other; who goes to the one that is no lighter (bits; the least of alike ones) by asked()."

    private static void divorceByWeight() {
        Edge.tells("one", Scene.barge("m k90"), x -> x.divorce(), 18, 1);
        Edge.tells("two unlike", Scene.barge("m g10 g90"), x -> x.divorce(), 8, 2);
        Edge.tells("an UNCLE twice", Scene.barge("m u30 g60"), x -> x.divorce(), 0, 1);
        Edge.tells("a COUSIN twice", Scene.barge("m g80 k40"), x -> x.divorce(), 0, 1);
        Edge.tells("whoever is seated", Scene.barge("m g10 g90").seats(0), x -> x.divorce(), 8, 2);
        Edge.tells("seven", Scene.barge("m k90 k90 k90 k90 k90 k90 k90"), x -> x.divorce(), 18, 15);
    }

    /** "who goes to the one that is no lighter (bits; the least of alike ones)" */
    private static void divorceTheLeastOfAlikeOnes() {
        Edge.tells("both alike: the least", Scene.barge("m g20 g20"), x -> x.divorce(), 0, 1);
        Edge.tells("three alike", Scene.barge("m g20 g20 g20"), x -> x.divorce(), 2, 3);
        Edge.tells("the heavier one's, not the lighter one's", Scene.barge("m g10 g20 g20"), x -> x.divorce(), 1, 3);
        Edge.tells("four alike", Scene.barge("m g20 g20 g20 g20"), x -> x.divorce(), 0, 3);
    }

    private static void divorceOfNobody() {
        Edge.tells("no GUESTS", Scene.barge("r3").then(x -> x.bench(0, 0)), x -> x.divorce(), 0, 0);
        Edge.tells("no BENCHES", Scene.empty(), x -> x.divorce(), 0, 0);
    }

    // 42 "Likewise with KIN kept together as far as can be: how many have to go with the other KIN at least, so that both
    // boats differ by d (0 .. 99) or less; the least set (bits) by asked(). NONE: never. BAD."

    private static void kinAsTheyAre() {
        Scene scene = Scene.barge("m g50 g31");
        Edge.tells("they differ by d", scene.then(x -> x.divorce()), x -> x.kin(2), 0, 0);
        Edge.tells("by less", scene, x -> x.kin(99), 0, 0);
        Edge.tells("the groom's being heavier", Scene.barge("m g31 g50"), x -> x.kin(2), 0, 0);
        Edge.tells("alike", Scene.barge("m u30 g61"), x -> x.kin(0), 0, 0);
        Edge.tells("one KIN alone", Scene.barge("m g50").then(x -> x.divorce()), x -> x.kin(5), 0, 0);
        Edge.tells("no GUESTS", Scene.barge("m"), x -> x.kin(0), 0, 0);
        Edge.tells("no BENCHES", Scene.empty(), x -> x.kin(99), 0, 0);
    }

    private static void kinTheFewest() {
        Edge.tells("one", Scene.barge("m g50 g20 g31"), x -> x.kin(0), 1, 2);
        Edge.tells("one of alike ones: the least set", Scene.barge("m g20 g20 g20 g20"), x -> x.kin(4), 1, 1);
        Edge.tells("two of alike ones", Scene.barge("m g20 g20 g20 g20"), x -> x.kin(3), 2, 3);
        Edge.tells("one, though a lesser set of two would do", Scene.barge("m g10 g10 g20 g41").then(x -> x.kin(99)),
                x -> x.kin(0), 0, 0);
        Edge.tells("the heavier one, though two lighter ones are a lesser set", Scene.barge("m g10 g10 g20"),
                x -> x.kin(0), 1, 4);
        Edge.tells("one of the groom's", Scene.barge("m g10 g31 g21"), x -> x.kin(0), 1, 4);
        Edge.tells("the most that there are", Scene.barge("m k90 k90 k90 k90 k90 k90"), x -> x.kin(0), 3, 7);
        Edge.tells("99 is not 108", Scene.barge("m k90 k90 k90 k90 k90 k90"), x -> x.kin(99), 1, 1);
    }

    private static void kinIsNone() {
        Edge.none("never alike", Scene.full().text(3, "m g50 g31").then(x -> x.barge(3)), x -> x.kin(1));
        Edge.none("one alone", Scene.barge("m g50").then(x -> x.divorce()), x -> x.kin(4));
    }

    private static void kinIsRefused() {
        for (int d : new int[] {LEAST, -1, 100, MOST}) {
            Edge.bad("kin(" + d + ")", Scene.full(), x -> x.kin(d));
        }
        Edge.answers("kin(0)", Scene.barge("m"), x -> x.kin(0), 0);
        Edge.answers("kin(99)", Scene.barge("m"), x -> x.kin(99), 0);
    }

    private static void allStaysAsItIs() {
        Scene full = Scene.full();
        Edge.leavesAll("aisle()", full, x -> x.aisle());
        Edge.leavesAll("leave() but for its ROW", full.limit(99).then(x -> x.leave(4)), x -> x.leave(4));
        Edge.leavesAll("leavers()", full, x -> x.leavers());
        Edge.leavesAll("invite() but for its ROW", full.limit(99).then(x -> x.invite(2, 2, 4)), x -> x.invite(2, 2, 4));
        Edge.leavesAll("far(0, 0)", full, x -> x.far(0, 0));
        Edge.leavesAll("crossed()", full, x -> x.crossed());
        Edge.leavesAll("divorce()", full, x -> x.divorce());
        Edge.leavesAll("kin(9)", full, x -> x.kin(9));
    }
}
