/** Promises 31 to 34: SEATINGS. */
public final class SeatingsTest {
    public static void main(String[] args) {
        best();
        bestOfAlikeOnes();
        bestByTheRite();
        bestRefused();
        ways();
        waysByQuarrels();
        sure();
        where();
        refusedAlike();
        Due.end();
    }

    private static void best() {
        HeavierSide x = Due.barge("l2 r1 r4 g20 g30 c11");
        Due.seats(x, 2);
        Due.is("best(3)", x.best(3), 0);
        Due.rowIs(x, "best", 3, 2, 0, 0);
        Due.is("nobody has moved", x.count(2), 1);
        Due.seats(x, -1, 1, 1);
        Due.is("best(3) as they sit", x.best(3), 12);
        Due.rowIs(x, "best of one", 3, 2, 1, 1);
        x.quarrel(0, 1);
        Due.is("best(3) as they sit, QUARRELS or not", x.best(3), 12);
    }

    private static void bestOfAlikeOnes() {
        HeavierSide x = Due.barge("r1 l1 r1 l1 g10 g10 g10 g10 g10");
        Due.is("best(0)", x.best(0), 1);
        Due.rowIs(x, "the first of alike ones", 0, 0, 0, 1, 1, 2);
        x = Due.barge("l1 r1 m c10 c20 c30");
        Due.is("CHILDREN need no SEATS", x.best(0), 0);
        Due.rowIs(x, "CHILDREN", 0, 0, 0, 1);
    }

    private static void bestByTheRite() {
        // MOMENTS of the CHOIR: -6, 8, 12, STANDING -10, 12, 16; of the COUSIN: -6, 8, 12, KNEELING -2, 4, 8
        HeavierSide x = Due.barge("l3 r4 r6 h20 k10");
        Due.is("best(0) SITTING", x.best(0), 2);
        Due.rowIs(x, "SITTING", 0, 0, 1);
        Due.rite(x, "tk");
        Due.is("best(0) STANDING, KNEELING", x.best(0), 2);
        Due.rowIs(x, "STANDING, KNEELING", 0, 0, 1);
        x.rain(-5);
        Due.is("best(0) with RAIN", x.best(0), 1);
        Due.rowIs(x, "with RAIN", 0, 1, 0);
        Due.rite(x, "k");
        Due.is("best(0) KNEELING alone", x.best(0), 1);
        Due.rowIs(x, "KNEELING alone", 0, 1, 0);
        Due.rite(x, "t");
        Due.is("best(0) STANDING alone", x.best(0), 1);
        Due.rowIs(x, "STANDING alone", 0, 1, 0);
        x.rain(2);
        Due.is("best(0) STANDING alone", x.best(0), 0);
        Due.rowIs(x, "STANDING alone", 0, 0, 1);
        Due.rite(x, "k");
        Due.is("best(0) KNEELING alone", x.best(0), 0);
        Due.rowIs(x, "KNEELING alone", 0, 0, 1);
        Due.rite(x, "s");
        Due.is("best(0) SITTING alone", x.best(0), 4);
    }

    private static void bestRefused() {
        HeavierSide x = new HeavierSide();
        Due.is("best(6)", x.best(6), HeavierSide.BAD);
        Due.is("best(-1)", x.best(-1), HeavierSide.BAD);
        Due.is("best(0) without BENCHES", x.best(0), HeavierSide.STATE);
        x = Due.barge("m c10 c10 c10 c10 c10 c10");
        Due.is("best(-1)", x.best(-1), HeavierSide.BAD);
        Due.is("best(0) of six", x.best(0), HeavierSide.SPENT);
        Due.seats(x, 0);
        Due.is("best(0) of five", x.best(0), 0);
        x = Due.barge("l1 g10 g10 g10");
        Due.row(x, 0, 7, 8);
        Due.is("best(0) without SEATS", x.best(0), HeavierSide.NONE);
        Due.rowIs(x, "NONE: the ROW stays", 0, 7, 8);
        x = Due.barge("m");
        Due.is("best(0) of nobody", x.best(0), 0);
        Due.rowIs(x, "nobody", 0);
    }

    private static void ways() {
        HeavierSide x = Due.barge("l1 r1 g10 g20 g30");
        Due.is("ways()", x.ways(), 2);
        Due.fraction("ways() of 6", x, 1, 3);
        x.limit(2);
        Due.is("ways()", x.ways(), 4);
        Due.fraction("ways() of 6", x, 2, 3);
        x.limit(4);
        Due.is("ways()", x.ways(), 6);
        Due.fraction("ways() all", x, 1, 1);
        x.rain(200);
        Due.is("ways()", x.ways(), 0);
        Due.fraction("ways() of none that are LEVEL", x, 0, 1);
        x.rain(0);
        x.ways();
        x = Due.barge("l1 g10 g10 g10");
        x.minutes();
        Due.is("ways()", x.ways(), 0);
        Due.fraction("no SEATING", x, 0, 1);
        x = Due.barge("m r1 a10");
        Due.is("ways() SITTING", x.ways(), 1);
        x.limit(1);
        Due.is("ways() SITTING", x.ways(), 2);
        Due.rite(x, "sst");
        Due.is("ways() LEVEL THROUGH", x.ways(), 1);
        Due.fraction("ways() LEVEL THROUGH", x, 1, 2);
    }

    private static void waysByQuarrels() {
        HeavierSide x = Due.barge("m m m m g10 g10 g10");
        x.quarrel(0, 1);
        Due.is("SEATINGS apart by two and more", x.ways(), 6 * 4);
        Due.seats(x, 0);
        Due.is("also with those seated", x.ways(), 2 * 4);
        Due.seats(x, 1);
        Due.is("one place is left", x.ways(), 4);
        Due.seats(x, -1, -1, 3);
        x.quarrel(0, 2);
        x.rise(2);
        Due.is("two of them", x.ways(), 1);
        x.quarrel(1, 2);
        Due.is("and among themselves", x.ways(), 0);
        Due.fraction("none", x, 0, 1);
        x = Due.barge("m m m m g10 g10 g10");
        Due.seats(x, 0, 0);
        x.quarrel(0, 1);
        Due.is("those who sit already are let be", x.ways(), 3);
    }

    private static void sure() {
        HeavierSide x = Due.barge("l2 r1 g30 g60 c21");
        x.limit(2);
        Due.is("sure()", x.sure(), 7);
        x.limit(4);
        Due.is("sure()", x.sure(), 3);
        Due.seats(x, 0);
        Due.is("sure() of those not seated", x.sure(), 2);
        Due.seats(x, -1, 1, 1);
        Due.is("sure() of nobody", x.sure(), 0);
        x.rain(100);
        x.rise(0);
        Due.is("sure() of none that are LEVEL", x.sure(), 0);
    }

    private static void where() {
        HeavierSide x = Due.barge("l2 r1 g30 g60 c21");
        x.limit(4);
        Due.tells("where(0)", x, x.where(0), 1, 1);
        Due.tells("where(1)", x, x.where(1), 1, 2);
        Due.tells("where(2)", x, x.where(2), 2, 3);
        Due.is("where(3)", x.where(3), HeavierSide.BAD);
        Due.is("where(-1)", x.where(-1), HeavierSide.BAD);
        Due.seats(x, 0);
        Due.tells("where(0) seated", x, x.where(0), HeavierSide.STATE, 3);
        x.rain(100);
        Due.tells("where(1) nowhere", x, x.where(1), 0, 0);
    }

    private static void refusedAlike() {
        HeavierSide x = new HeavierSide();
        Due.is("ways() without BENCHES", x.ways(), HeavierSide.STATE);
        Due.is("sure() without BENCHES", x.sure(), HeavierSide.STATE);
        Due.is("where(0) without BENCHES", x.where(0), HeavierSide.BAD);
        x = Due.barge("m c10 c10 c10 c10 c10 c10 c10");
        Due.is("ways() of seven", x.ways(), HeavierSide.SPENT);
        Due.seats(x, 0);
        Due.is("ways() of six", x.ways(), HeavierSide.SPENT);
        Due.is("sure() of six", x.sure(), HeavierSide.SPENT);
        Due.is("where(1) of six", x.where(1), HeavierSide.SPENT);
        Due.is("where(0) of six, seated", x.where(0), HeavierSide.STATE);
        Due.seats(x, -1, 0);
        Due.is("ways() of five", x.ways(), 1);
        Due.is("sure() of five", x.sure(), 124);
        Due.is("where(2) of five", x.where(2), 1);
    }
}
