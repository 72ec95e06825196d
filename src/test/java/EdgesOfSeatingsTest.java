/** Promises 31 to 34: each boundary that the document names for SEATINGS. */
public final class EdgesOfSeatingsTest {
    private static final int SPENT = HeavierSide.SPENT;

    public static void main(String[] args) {
        seatingOfNobodyLeft();
        seatingOfNoGuests();
        seatingByTwoSeats();
        seatingOfChildren();
        seatingByQuarrelsAmongThoseWhoCome();
        seatingByQuarrelsWithThoseSeated();
        seatingLetsThoseSeatedBe();
        seatingOfFive();
        seatingsAreThroughEachMinute();
        bestIsTheLeastWorst();
        bestIsTheFirstOfAlikeOnes();
        bestComesToARowAnew();
        bestIsNone();
        bestIsRefused();
        waysOfAllSeatings();
        waysOfNone();
        waysIsRefused();
        sureOfThoseNotSeated();
        sureOfNone();
        sureIsRefused();
        whereOnHowManyBenches();
        whereNowhere();
        whereIsRefused();
        eachSearchIsAnew();
        allStaysAsItIs();
        Due.end();
    }

    // "A SEATING of all who are not seated yet (if all are, one: as they sit): each comes to a BENCH, SEATS, QUARRELS
    // (also with those seated) as told."

    private static void seatingOfNobodyLeft() {
        Scene all = Scene.barge("l2 r1 g30 g50").seats(0, 1);
        Edge.brings("best() as they sit", all, x -> x.best(0), 1, 0, 0, 1);
        Edge.shares("ways() not LEVEL", all, x -> x.ways(), 0, 0, 1);
        Edge.shares("ways() LEVEL", all.limit(1), x -> x.ways(), 1, 1, 1);
        Edge.answers("sure() of nobody", all.limit(1), x -> x.sure(), 0);
        Edge.brings("QUARRELS of those who sit", all.quarrel(0, 1), x -> x.best(0), 1, 0, 0, 1);
        Edge.shares("ways() of those who quarrel", all.quarrel(0, 1).limit(1), x -> x.ways(), 1, 1, 1);
    }

    private static void seatingOfNoGuests() {
        Scene nobody = Scene.barge("l2 r1");
        Edge.brings("best()", nobody.rain(-5), x -> x.best(3), 5, 3);
        Edge.shares("ways()", nobody, x -> x.ways(), 1, 1, 1);
        Edge.shares("ways() by RAIN", nobody.rain(1), x -> x.ways(), 0, 0, 1);
        Edge.answers("sure()", nobody, x -> x.sure(), 0);
        Edge.bad("where(0)", nobody, x -> x.where(0));
    }

    private static void seatingByTwoSeats() {
        Edge.shares("one GUEST", Scene.barge("m g10"), x -> x.ways(), 1, 1, 1);
        Edge.shares("two on one BENCH", Scene.barge("m g10 g10"), x -> x.ways(), 1, 1, 1);
        Edge.shares("three on one BENCH", Scene.barge("m g10 g10 g10"), x -> x.ways(), 0, 0, 1);
        Edge.answers("three on two BENCHES", Scene.barge("m m g10 g10 g10"), x -> x.ways(), 6);
        Edge.answers("four on two BENCHES", Scene.barge("m m g10 g10 g10 g10"), x -> x.ways(), 6);
        Edge.answers("five on two BENCHES", Scene.barge("m m g10 g10 g10 g10 g10"), x -> x.ways(), 0);
        Edge.answers("SEATS taken already", Scene.barge("m m g10 g10 g10").seats(0, 0), x -> x.ways(), 1);
        Edge.answers("one SEAT taken already", Scene.barge("m m g10 g10 g10").seats(0), x -> x.ways(), 3);
    }

    private static void seatingOfChildren() {
        Edge.answers("five on one BENCH", Scene.barge("m c10 c10 c10 c10 c10"), x -> x.ways(), 1);
        Edge.answers("onto a full BENCH", Scene.barge("m g10 g10 c10").seats(0, 0), x -> x.ways(), 1);
        Edge.answers("they leave the SEATS", Scene.barge("m c10 c10 g10 g10").seats(0, 0), x -> x.ways(), 1);
        Edge.answers("they bring none", Scene.barge("m c10 c10 g10 g10 g10"), x -> x.ways(), 0);
        Edge.answers("they quarrel, too", Scene.barge("m c10 c10").quarrel(0, 1), x -> x.ways(), 0);
    }

    private static void seatingByQuarrelsAmongThoseWhoCome() {
        Edge.answers("on two BENCHES", Scene.barge("m m g10 g10").quarrel(0, 1), x -> x.ways(), 0);
        Edge.answers("on three", Scene.barge("m m m g10 g10").quarrel(0, 1), x -> x.ways(), 2);
        Edge.answers("told the other way", Scene.barge("m m m g10 g10").quarrel(1, 0), x -> x.ways(), 2);
        Edge.answers("on eight", Scene.barge("mmmmmmmm g10 g10").quarrel(1, 0), x -> x.ways(), 42);
        Edge.answers("another one being between", Scene.barge("m g10 c10 c10").quarrel(0, 2), x -> x.ways(), 0);
        Edge.answers("with two others", Scene.barge("m m m g10 c10 c10").quarrel(0, 1).quarrel(0, 2), x -> x.ways(), 2);
        Edge.answers("with two others, told the other way",
                Scene.barge("m m m g10 c10 c10").quarrel(1, 0).quarrel(2, 0), x -> x.ways(), 2);
        Edge.answers("by numbers, not by X", Scene.barge("l9 r9 l9 g10 g10").limit(999).quarrel(1, 0), x -> x.ways(), 2);
    }

    private static void seatingByQuarrelsWithThoseSeated() {
        Scene scene = Scene.barge("mmmmmmmm g10 g10").quarrel(1, 0);
        int[] free = {6, 5, 5, 5, 5, 5, 5, 6};
        for (int b = 0; b < 8; b++) {
            Edge.answers("a foe on BENCH " + b, scene.seats(b), x -> x.ways(), free[b]);
            int taken = 255 & ~(7 << b >> 1);
            Edge.tells("where, a foe on BENCH " + b, scene.seats(b), x -> x.where(1), free[b], taken);
        }
    }

    private static void seatingLetsThoseSeatedBe() {
        Scene broken = Scene.barge("m m m g10 g10 g10").seats(0, 0).quarrel(0, 1);
        Edge.answers("a QUARREL of those seated", broken, x -> x.ways(), 2);
        Edge.brings("they sit as they sit", broken, x -> x.best(0), 0, 0, 0, 0, 1);
    }

    private static void seatingOfFive() {
        Scene five = Scene.barge("mmmmmmmm c10 c10 c10 c10 c10 c10 c10");
        Edge.refused("seven", five, x -> x.ways(), SPENT);
        Edge.refused("six", five.seats(0), x -> x.ways(), SPENT);
        Edge.shares("five", five.seats(0, 0), x -> x.ways(), 32768, 1, 1);
        Edge.answers("five of five", Scene.barge("mmmmmmmm c10 c10 c10 c10 c10"), x -> x.ways(), 32768);
        Edge.refused("six again", five.seats(0, 0).then(x -> x.rise(1)), x -> x.ways(), SPENT);
        Edge.shares("one of them", Scene.barge("mr9r9r9r9r9r9r9 c90 c90 c90 c90 c90"), x -> x.ways(), 1, 1, 32768);
    }

    /** "It is LEVEL THROUGH, if it is LEVEL in each MINUTE of the RITE (all being seated)." */
    private static void seatingsAreThroughEachMinute() {
        Scene aunt = Scene.barge("m r1 r2 a10").limit(2);
        Edge.shares("SITTING", aunt, x -> x.ways(), 3, 1, 1);
        Edge.shares("SITTING, an UNCLE, without a RITE", Scene.barge("m r1 u10"), x -> x.ways(), 1, 1, 2);
        Edge.shares("SITTING, an UNCLE, with a RITE", Scene.barge("m r1 u10").rite("s"), x -> x.ways(), 1, 1, 2);
        Edge.shares("STANDING", aunt.rite("t"), x -> x.ways(), 2, 2, 3);
        Edge.shares("in one MINUTE of forty", aunt.rite("s".repeat(39) + "t"), x -> x.ways(), 2, 2, 3);
        Edge.shares("in the first of forty", aunt.rite("t" + "k".repeat(39)), x -> x.ways(), 2, 2, 3);
        Edge.shares("not in a POSTURE that there is not", aunt.rite("ks"), x -> x.ways(), 3, 1, 1);
        Scene uncle = Scene.barge("m r1 r2 u10");
        Edge.shares("KNEELING", uncle.rite("k"), x -> x.ways(), 2, 2, 3);
        Edge.shares("KNEELING, SITTING", uncle.rite("ks"), x -> x.ways(), 1, 1, 3);
        Edge.shares("all being seated", Scene.barge("l1 r1 a10 a10").seats(0).rite("st"), x -> x.ways(), 1, 1, 2);
        String[] rites = {"s", "t", "k"};
        int[] rains = {-6, -6, -4};
        for (int p = 0; p < rites.length; p++) {
            Scene sides = Scene.barge("l3 r3 u10").rite(rites[p]);
            Edge.tells("to the right in POSTURE " + p, sides.rain(rains[p]), x -> x.where(0), 1, 2);
            Edge.tells("to the left in POSTURE " + p, sides.rain(-rains[p]), x -> x.where(0), 1, 1);
        }
        Edge.shares("with the RAIN", Scene.barge("l1 r1 a10 a10").seats(0).rite("st").rain(1), x -> x.ways(), 0, 0, 1);
    }

    // 31 "The SEATING of the least WORST (the first) comes to a ROW (anew; for each GUEST its BENCH, those seated, too):
    // that WORST. NONE: no SEATING. BAD; STATE: no BENCHES; SPENT: more than 5 are not seated."

    private static void bestIsTheLeastWorst() {
        Edge.brings("0", Scene.barge("l1 r1 g10 g10"), x -> x.best(0), 0, 0, 0, 1);
        Edge.brings("not LEVEL", Scene.barge("r4 r3 g50"), x -> x.best(0), 15, 0, 1);
        Edge.brings("by the RAIN", Scene.barge("r4 r3 g50").rain(-20), x -> x.best(0), 0, 0, 0);
        Edge.brings("the greatest in a MINUTE", Scene.barge("l1 r2 a50").rite("st").rain(-3), x -> x.best(0), 12, 0, 1);
        Edge.brings("STANDING alone", Scene.barge("l1 r2 a50").rite("t").rain(-3), x -> x.best(0), 12, 0, 1);
        Edge.brings("SITTING alone", Scene.barge("l1 r2 a50").rite("s").rain(-1), x -> x.best(0), 6, 0, 0);
    }

    /** "SEATINGS are gone through by the BENCH of the first of those GUESTS, then of the next ..: of alike ones the first
     * is told." */
    private static void bestIsTheFirstOfAlikeOnes() {
        Edge.brings("all alike", Scene.barge("m m m g10 g10"), x -> x.best(0), 0, 0, 0, 0);
        Edge.brings("to the left or to the right", Scene.barge("r1 l1 g10"), x -> x.best(0), 1, 0, 0);
        Edge.brings("by the first one's BENCH", Scene.barge("m l1 r1 g10 g10").quarrel(0, 1), x -> x.best(0), 1, 0, 0, 2);
        Edge.brings("those of whom one is seated", Scene.barge("m l1 r1 g10 g10 g10").seats(-1, 1),
                x -> x.best(0), 0, 0, 0, 1, 2);
        Edge.brings("two full BENCHES", Scene.barge("m m g10 g10 g10"), x -> x.best(0), 0, 0, 0, 0, 1);
    }

    private static void bestComesToARowAnew() {
        Scene three = Scene.barge("l1 r1 g10 g20 g30").seats(-1, 1);
        Edge.brings("a missing ROW", three, x -> x.best(5), 0, 5, 1, 1, 0);
        Scene seven = Scene.barge("m m m r9 g10 g10 g10 g10 g10 g10 g10").seats(3, 3);
        Edge.brings("seven GUESTS", seven, x -> x.best(5), 18, 5, 3, 3, 0, 0, 1, 1, 2);
        Scene lastSeated = Scene.barge("m m m r9 g10 g10 g10 g10 g10 g10 g10").seats(-1, -1, -1, -1, -1, 3, 3);
        Edge.brings("seven GUESTS, the last ones seated", lastSeated, x -> x.best(5), 18, 5, 0, 0, 1, 1, 2, 3, 3);
        Edge.brings("a lesser ROW", three.row(5, 9), x -> x.best(5), 0, 5, 1, 1, 0);
        Edge.brings("a greater ROW", three.row(5, 9, 9, 9, 9), x -> x.best(5), 0, 5, 1, 1, 0);
        Edge.tells("asked() stays", Scene.full(), x -> x.best(5) * 0, 0, 12);
    }

    private static void bestIsNone() {
        Edge.none("no SEATS", Scene.barge("m g10 g10 g10").row(0, 7, 8), x -> x.best(0));
        Edge.none("the ROW stays missing", Scene.barge("m g10 g10 g10"), x -> x.best(0));
        Edge.none("no SEATS behind those seated", Scene.barge("m g10 g10 g10").seats(0, 0).row(0, 7), x -> x.best(0));
        Edge.none("QUARRELS", Scene.barge("m m g10 g10").quarrel(0, 1).row(0, 7), x -> x.best(0));
        Edge.none("QUARRELS with those seated", Scene.barge("m m g10 g10").quarrel(0, 1).seats(1).row(0, 7), x -> x.best(0));
    }

    private static Scene six() {
        return Scene.barge("m c10 c10 c10 c10 c10 c10").row(0, 7, 8);
    }

    private static void bestIsRefused() {
        for (int r : new int[] {Edge.LEAST, -1, 6, Edge.MOST}) {
            Edge.bad("best(" + r + ")", Scene.full(), x -> x.best(r));
        }
        Edge.state("no BENCHES", Scene.empty().row(0, 7, 8), x -> x.best(0));
        Edge.refused("six are not seated", six(), x -> x.best(0), SPENT);
        Edge.brings("five are not", six().seats(0), x -> x.best(0), 0, 0, 0, 0, 0, 0, 0, 0);
    }

    // 32 "In how many SEATINGS it is LEVEL THROUGH, of all SEATINGS, told by upper(), lower() (0 by 1, if there is
    // none): how many. STATE; SPENT."

    private static void waysOfAllSeatings() {
        Scene three = Scene.barge("l1 r1 m g10 g10");
        Edge.shares("three of nine", three, x -> x.ways(), 3, 1, 3);
        Edge.shares("seven of nine", three.limit(1), x -> x.ways(), 7, 7, 9);
        Edge.shares("nine of nine", three.limit(2), x -> x.ways(), 9, 1, 1);
        Edge.shares("one of nine", three.rain(2), x -> x.ways(), 1, 1, 9);
        Edge.tells("asked() stays", Scene.full(), x -> x.ways() * 0, 0, 12);
    }

    private static void waysOfNone() {
        Scene told = Scene.barge("m g10 g10 g10").then(x -> x.odds(0, 1));
        Edge.shares("no SEATING", told, x -> x.ways(), 0, 0, 1);
        Edge.shares("none that is LEVEL", Scene.barge("r1 g10").then(x -> x.odds(0, 1)), x -> x.ways(), 0, 0, 1);
    }

    private static void waysIsRefused() {
        Edge.state("no BENCHES", Scene.empty(), x -> x.ways());
        Edge.refused("six are not seated", six(), x -> x.ways(), SPENT);
        Edge.answers("five are not", six().seats(0), x -> x.ways(), 1);
    }

    // 33 "Who of those not seated sits on the same BENCH in all SEATINGS that are LEVEL THROUGH (bits; 0, if there is
    // none). STATE; SPENT."

    private static void sureOfThoseNotSeated() {
        Scene scene = Scene.barge("l1 r1 g10 g20 g30").seats(0);
        Edge.answers("two of them", scene, x -> x.sure(), 6);
        Edge.answers("all of one SEATING", Scene.barge("l1 r2 g40 g20"), x -> x.sure(), 3);
        Edge.answers("nobody", Scene.barge("l1 r1 g10 g10"), x -> x.sure(), 0);
        Edge.answers("one of two", Scene.barge("m r9 g90 c10").limit(9), x -> x.sure(), 1);
        Edge.answers("the other of two", Scene.barge("m r9 c10 g90").limit(9), x -> x.sure(), 2);
        Edge.answers("one BENCH there is", Scene.barge("m c10 c10 c10 c10 c10"), x -> x.sure(), 31);
        Edge.answers("the last GUEST", Scene.barge("m r1 c10 c10 c10 c10 c10 c10 g10").seats(0, 0, 0, 0, 0, 0),
                x -> x.sure(), 64);
    }

    private static void sureOfNone() {
        Edge.answers("none is LEVEL", Scene.barge("r1 g10"), x -> x.sure(), 0);
        Edge.answers("no SEATING", Scene.barge("m g10 g10 g10"), x -> x.sure(), 0);
    }

    private static void sureIsRefused() {
        Edge.state("no BENCHES", Scene.empty(), x -> x.sure());
        Edge.refused("six are not seated", six(), x -> x.sure(), SPENT);
        Edge.answers("five are not", six().seats(0), x -> x.sure(), 62);
    }

    // 34 "On how many BENCHES a GUEST who is not seated can sit in SEATINGS that are LEVEL THROUGH; which (bits) by
    // asked(). BAD; STATE: it is seated, or no BENCHES; SPENT."

    private static void whereOnHowManyBenches() {
        Scene eight = Scene.barge("l4 l3 l2 l1 r1 r2 r3 r4 g10 g10");
        Edge.tells("on all", eight, x -> x.where(0), 8, 255);
        Edge.tells("on one", eight.seats(0), x -> x.where(1), 1, 128);
        Edge.tells("on another one", eight.seats(7), x -> x.where(1), 1, 1);
        Edge.tells("by the LIMIT", eight.seats(0).limit(1), x -> x.where(1), 2, 192);
        Edge.tells("by SEATS", Scene.barge("m m g10 g10 g10").seats(0, 0), x -> x.where(2), 1, 2);
    }

    private static void whereNowhere() {
        Edge.tells("none is LEVEL", Scene.barge("r1 g10").then(x -> x.bench(0, 0)), x -> x.where(0), 0, 0);
        Edge.tells("no SEATING", Scene.barge("m g10 g10 g10"), x -> x.where(0), 0, 0);
    }

    private static void whereIsRefused() {
        for (int g : new int[] {Edge.LEAST, -1, 6, Edge.MOST}) {
            Edge.bad("where(" + g + ")", Scene.full(), x -> x.where(g));
            Edge.bad("where(" + g + ") of six", six(), x -> x.where(g));
        }
        Edge.bad("where(0) without BENCHES", Scene.empty(), x -> x.where(0));
        Edge.state("it is seated", Scene.full(), x -> x.where(0));
        Edge.refused("six are not seated", six(), x -> x.where(5), SPENT);
        Edge.tells("five are not", six().seats(0), x -> x.where(5), 1, 1);
    }

    private static void eachSearchIsAnew() {
        HeavierSide x = Scene.barge("l1 r1 m g10 g10").make();
        for (int i = 0; i < 2; i++) {
            Due.is("ways() again", x.ways(), 3);
            Due.fraction("ways() again", x, 1, 3);
            Due.tells("where(0) again", x, x.where(0), 3, 7);
            Due.is("best(0) again", x.best(0), 0);
        }
        x.rain(1);
        Due.is("ways() with RAIN", x.ways(), 2);
        Due.tells("where(0) with RAIN", x, x.where(0), 2, 5);
        x.rain(200);
        Due.is("best(0) with more", x.best(0), 198);
        Due.is("sure() with more", x.sure(), 0);
        x.quarrel(0, 1);
        x.seat(0, 1);
        Due.is("best(0) of no SEATING", x.best(0), HeavierSide.NONE);
        Due.is("ways() of no SEATING", x.ways(), 0);
        Due.tells("where(1) of no SEATING", x, x.where(1), 0, 0);
        Due.is("sure() of no SEATING", x.sure(), 0);
    }

    private static void allStaysAsItIs() {
        Edge.leavesAll("best() but for its ROW", Scene.full().then(x -> x.best(4)), x -> x.best(4));
        Edge.leavesAll("ways()", Scene.full(), x -> x.ways());
        Edge.leavesAll("sure()", Scene.full(), x -> x.sure());
        Edge.leavesAll("where(4)", Scene.full(), x -> x.where(4));
    }
}
