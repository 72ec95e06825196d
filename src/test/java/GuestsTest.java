/** Promises 35 to 42: who changes, leaves, is invited; quarrels across the aisle, divorces. */
public final class GuestsTest {
    private static final int NOTHING = 1, UNLIKE = 3, SIZE = 5;

    public static void main(String[] args) {
        aisle();
        aisleAsChange();
        leave();
        leaveEdges();
        leavers();
        invite();
        inviteSeats();
        inviteRefused();
        far();
        farOnBenchesAlone();
        crossed();
        divorce();
        kin();
        Due.end();
    }

    private static void aisle() {
        HeavierSide x = Due.barge("l3 r1 m g50 g20 g40");
        Due.seats(x, 0, 1, 2);
        Due.tells("aisle()", x, x.aisle(), 1, 1);
        sits(x, 0, 0);
        Due.is("no DEED", x.count(9), 3);
        x.change(0, 1);
        Due.tells("aisle() can't be less", x, x.aisle(), HeavierSide.NONE, 0);
        x = Due.barge("l1 r1 g30 g30 g10 g10");
        Due.seats(x, 0, 0, 1, 1);
        Due.tells("aisle() the first of alike ones", x, x.aisle(), 2, 0);
        x = Due.barge("m l1 r1 g90 g30 g10");
        Due.seats(x, 0, 1, 2);
        x.rain(-2);
        Due.tells("aisle() 10 times the lesser number", x, x.aisle(), 12, 0);
        x = Due.barge("l1 g30");
        Due.is("aisle() of nobody", x.aisle(), HeavierSide.NONE);
    }

    private static void sits(HeavierSide x, int g, int b) {
        Due.tells("guest(" + g + ", 3)", x, x.guest(g, 3), 1, b);
    }

    private static void aisleAsChange() {
        HeavierSide x = Due.barge("l1 r1 g30 g30 c10 g20");
        Due.seats(x, 0, 0, 0, 1);
        Due.tells("aisle() without SEATS for 2 and 3", x, x.aisle(), 3, 3);
        x.quarrel(0, 1);
        Due.tells("aisle() by QUARRELS", x, x.aisle(), HeavierSide.NONE, 3);
        x.rain(5);
        x.list(0);
        Due.is("THE LIST is 0", x.asked(), 0);
        Due.is("no change makes it less", x.aisle(), HeavierSide.NONE);
    }

    private static void leave() {
        HeavierSide x = Due.barge("l1 r1 m g30 g20 g20 g30 g91");
        Due.seats(x, 0, 0, 1, 1, 2);
        x.limit(3);
        Due.is("leave(2)", x.leave(2), 5);
        Due.rowIs(x, "the first order", 2, 0, 2, 1, 3, 4);
        Due.is("nobody has left", x.count(2), 5);
        x.limit(1);
        Due.is("leave(2)", x.leave(2), HeavierSide.NONE);
        Due.rowIs(x, "NONE: the ROW stays", 2, 0, 2, 1, 3, 4);
        x = Due.barge("l2 g20 g10 g10");
        Due.seats(x, 0, 0);
        x.limit(4);
        Due.is("it need not be LEVEL ahead", x.leave(0), 2);
        Due.rowIs(x, "leave", 0, 0, 1);
        x.limit(2);
        Due.is("leave(0)", x.leave(0), 2);
        Due.rowIs(x, "the heavier one ahead", 0, 0, 1);
        x = Due.barge("l2 g10 g20");
        Due.seats(x, 0, 0);
        x.limit(2);
        Due.is("leave(0)", x.leave(0), 2);
        Due.rowIs(x, "GUEST 0 last", 0, 1, 0);
        x.limit(1);
        Due.is("leave(0)", x.leave(0), HeavierSide.NONE);
    }

    private static void leaveEdges() {
        HeavierSide x = new HeavierSide();
        Due.is("leave(6)", x.leave(6), HeavierSide.BAD);
        Due.is("leave(-1)", x.leave(-1), HeavierSide.BAD);
        x.rain(9);
        Due.row(x, 1, 4);
        Due.is("leave(1) of nobody", x.leave(1), 0);
        Due.rowIs(x, "no places", 1);
        x = Due.barge("r1 g90");
        Due.seats(x, 0);
        x.rain(-9);
        Due.is("behind the last one the RAIN alone", x.leave(1), HeavierSide.NONE);
        x.limit(9);
        Due.is("leave(1)", x.leave(1), 1);
        x = Due.barge("r2 g10 g90");
        Due.seats(x, 0, 0);
        x.rain(-5);
        x.limit(5);
        Due.is("leave(1) with RAIN", x.leave(1), 2);
        Due.rowIs(x, "not by numbers alone", 1, 1, 0);
        x = Due.barge("r1 r1 a90 a10");
        Due.seats(x, 0, 1);
        x.limit(1);
        Due.rite(x, "t");
        Due.is("SITTING, whatever RITE", x.leave(1), 2);
    }

    private static void leavers() {
        HeavierSide x = Due.barge("l1 r1 m g30 g20 g20 g30 g91");
        Due.tells("leavers() of nobody", x, x.leavers(), 0, 0);
        Due.seats(x, 0, 0, 1, 1, 2);
        x.limit(3);
        Due.tells("leavers()", x, x.leavers(), 31, 31);
        x.limit(2);
        Due.tells("leavers()", x, x.leavers(), 22, 22);
        x.limit(1);
        Due.tells("leavers() in no order", x, x.leavers(), 0, 0);
        x = Due.barge("l2 g20 g10 g10");
        Due.seats(x, 0, 0);
        x.limit(2);
        Due.tells("leavers()", x, x.leavers(), 1, 2);
        x.limit(4);
        Due.tells("leavers()", x, x.leavers(), 3, 3);
        x.rain(5);
        Due.tells("leavers() by the RAIN", x, x.leavers(), 0, 0);
        x = Due.barge("m m m m g10 g10 g10 g10 g10 g10 g10");
        Due.seats(x, -1, -1, -1, 0, 0, 1, 1);
        Due.tells("leavers() of those seated", x, x.leavers(), 120, 120);
        x.rise(6);
        Due.tells("leavers() of fewer", x, x.leavers(), 56, 56);
    }

    private static void invite() {
        HeavierSide x = Due.barge("l2 r1 r3 g30");
        Due.seats(x, 0);
        Due.row(x, 0, 3, 2, 6);
        Due.row(x, 1, 5, 5, 10);
        Due.is("invite(0, 1, 2)", x.invite(0, 1, 2), 5);
        Due.rowIs(x, "the cheapest, the first", 2, HeavierSide.NONE, 2, HeavierSide.NONE);
        Due.row(x, 1, 5, 11, 10);
        Due.is("invite(0, 1, 2)", x.invite(0, 1, 2), 10);
        Due.rowIs(x, "another one", 2, HeavierSide.NONE, HeavierSide.NONE, 1);
        x = Due.barge("r1 m m");
        Due.row(x, 0, 3, 2);
        Due.row(x, 1, 0, 0);
        Due.is("invite(0, 1, 0)", x.invite(0, 1, 0), 0);
        Due.rowIs(x, "onto the WEIGHTS; BENCHES ahead of NONE", 0, 1, 1);
    }

    private static void inviteSeats() {
        HeavierSide x = Due.barge("l1 r1 c90 g50 g40");
        Due.row(x, 0);
        Due.is("nobody to be invited, LEVEL", x.invite(0, 0, 3), 0);
        Due.rowIs(x, "no places", 3);
        Due.seats(x, 0, 1);
        Due.is("nobody to be invited, not LEVEL", x.invite(0, 0, 4), HeavierSide.NONE);
        Due.finds("the ROW stays missing", x, x.at(4, 0), NOTHING);
        Due.row(x, 0, 1, 1, 1, 1);
        Due.is("one SEAT is free to the right", x.invite(0, 0, 4), HeavierSide.NONE);
        x.limit(3);
        Due.is("invite(0, 0, 4)", x.invite(0, 0, 4), 1);
        Due.rowIs(x, "invite", 4, 1, HeavierSide.NONE, HeavierSide.NONE, HeavierSide.NONE);
        x = Due.barge("l1 r1 c30");
        Due.seats(x, 0);
        Due.row(x, 0, 1, 1, 1, 1);
        Due.is("two SEATS to the right", x.invite(0, 0, 4), HeavierSide.NONE);
        x.limit(1);
        Due.is("two SEATS to the right", x.invite(0, 0, 4), 2);
        Due.rowIs(x, "two", 4, 1, 1, HeavierSide.NONE, HeavierSide.NONE);
        Due.row(x, 0, 1);
        Due.is("fewer than ahead", x.invite(0, 0, 4), HeavierSide.NONE);
        x.rain(4);
        Due.is("LEVEL as it is", x.invite(0, 0, 4), 0);
        x.rain(5);
        Due.is("to the first BENCH", x.invite(0, 0, 4), 1);
        Due.rowIs(x, "the first BENCH", 4, 0);
        x = Due.barge("l1 r1 c90 g50 g40");
        Due.seats(x, 0, 1);
        Due.row(x, 0, 2, 2);
        Due.row(x, 1, 0, 99);
        x.rise(1);
        x.rain(5);
        Due.is("both", x.invite(0, 1, 5), 99);
        Due.rowIs(x, "both to the right", 5, 1, 1);
    }

    private static void inviteRefused() {
        HeavierSide x = new HeavierSide();
        int[][] bad = {{6, 0, 0}, {-1, 0, 0}, {0, 6, 0}, {0, -1, 0}, {0, 0, 6}, {0, 0, -1}};
        for (int[] b : bad) {
            Due.is("invite BAD", x.invite(b[0], b[1], b[2]), HeavierSide.BAD);
        }
        Due.is("invite without BENCHES", x.invite(0, 1, 2), HeavierSide.STATE);
        x = Due.barge("m");
        Due.finds("no WEIGHTS", x, x.invite(0, 1, 2), NOTHING);
        Due.row(x, 0, 1, 2, 3, 4, 0);
        Due.finds("no costs", x, x.invite(0, 1, 2), NOTHING);
        Due.row(x, 1, 1, 2, 3, 4, 0);
        Due.finds("more than 4", x, x.invite(0, 1, 2), SIZE);
        Due.row(x, 0, 1, 2, 3, 0);
        Due.finds("not as many", x, x.invite(0, 1, 2), SIZE);
        Due.row(x, 1, 0, 0, 0, 0);
        Due.finds("WEIGHT 0", x, x.invite(0, 1, 2), UNLIKE);
        Due.row(x, 0, 1, 2, 3, 10);
        Due.finds("WEIGHT 10", x, x.invite(0, 1, 2), UNLIKE);
        Due.row(x, 0, 0, 2, 3, 1);
        Due.finds("WEIGHT 0 ahead", x, x.invite(0, 1, 2), UNLIKE);
        Due.row(x, 0, 1, 2, 3, 9);
        Due.row(x, 1, 0, 0, 0, 100);
        Due.finds("cost 100", x, x.invite(0, 1, 2), UNLIKE);
        Due.row(x, 1, 0, 0, 0, -1);
        Due.finds("cost -1", x, x.invite(0, 1, 2), UNLIKE);
        Due.finds("nothing came", x, x.at(2, 0), NOTHING);
        Due.row(x, 1, 0, 99, 0, 0);
        Due.is("invite(0, 1, 2)", x.invite(0, 1, 2), 0);
    }

    private static void far() {
        HeavierSide x = Due.barge("m l2 r2 r5 l5 a20 g50 g50 g91");
        Due.tells("far(0, 0)", x, x.far(0, 0), 0, 0);
        x.limit(4);
        Due.tells("far(0, 0) the first such", x, x.far(0, 0), 2, 1);
        Due.tells("far(0, 1)", x, x.far(0, 1), 0, 0);
        x.limit(10);
        Due.tells("far(0, 0)", x, x.far(0, 0), 5, 3);
        Due.seats(x, 3, 1, 1);
        Due.tells("far(0, 0) from where it is", x, x.far(0, 0), 5, 3);
        x.quarrel(1, 2);
        Due.tells("far(3, 0) SEATS, QUARRELS aside", x, x.far(3, 0), 2, 2);
        Due.is("far(4, 0)", x.far(4, 0), HeavierSide.BAD);
        Due.is("far(-1, 0)", x.far(-1, 0), HeavierSide.BAD);
        Due.is("far(0, 3)", x.far(0, 3), HeavierSide.BAD);
        Due.is("far(0, -1)", x.far(0, -1), HeavierSide.BAD);
        x.seat(0, 4);
        Due.tells("far(0, 0) from the other side", x, x.far(0, 0), 5, 3);
        x.rain(200);
        x.seat(0, 3);
        x.list(0);
        Due.tells("far(0, 0) nowhere", x, x.far(0, 0), HeavierSide.NONE, 190);
    }

    private static void farOnBenchesAlone() {
        HeavierSide x = Due.barge("l2 r2 g10");
        Due.is("far(0, 0) not unseated", x.far(0, 0), HeavierSide.NONE);
        Due.seats(x, 0);
        x.rain(2);
        Due.tells("far(0, 0) where it is", x, x.far(0, 0), 2, 0);
        x.rain(-2);
        Due.tells("far(0, 0) on the other side", x, x.far(0, 0), 2, 1);
    }

    private static void crossed() {
        HeavierSide x = Due.barge("l1 r1 m r2 l2 g10 g10 g10 g10 g10");
        Due.seats(x, 0, 1, 2, 3);
        Due.tells("crossed() without QUARRELS", x, x.crossed(), 0, 0);
        x.quarrel(0, 1);
        x.quarrel(0, 2);
        x.quarrel(3, 0);
        x.quarrel(1, 3);
        x.quarrel(4, 3);
        Due.tells("crossed()", x, x.crossed(), 2, 1);
        x.quarrel(1, 2);
        x.quarrel(0, 1);
        Due.tells("crossed()", x, x.crossed(), 3, 3);
        Due.is("seat(4, 4) is refused", x.seat(4, 4), HeavierSide.STATE);
        x.rise(0);
        Due.tells("crossed() of those seated", x, x.crossed(), 0, 1);
    }

    private static void divorce() {
        HeavierSide x = Due.barge("m g50 u20 g30");
        Due.tells("divorce()", x, x.divorce(), 2, 6);
        x = Due.barge("m g50 g50");
        Due.tells("divorce() alike", x, x.divorce(), 0, 1);
        x = Due.barge("m k90 g10");
        Due.tells("divorce() all but one", x, x.divorce(), 17, 1);
        Due.seats(x, 0);
        Due.tells("divorce(), seated or not", x, x.divorce(), 17, 1);
        x = Due.barge("m g10 c21 g10 k10");
        Due.tells("divorce()", x, x.divorce(), 0, 3);
    }

    private static void kin() {
        HeavierSide x = Due.barge("m g50 u20 g31 g21");
        Due.tells("kin(4) as they are", x, x.kin(4), 0, 0);
        Due.tells("kin(3)", x, x.kin(3), 2, 5);
        Due.tells("kin(2)", x, x.kin(2), 2, 5);
        x.list(0);
        x = Due.barge("m g90 g11");
        x.divorce();
        Due.tells("kin(7) never", x, x.kin(7), HeavierSide.NONE, 1);
        Due.tells("kin(8)", x, x.kin(8), 0, 0);
        Due.is("kin(-1)", x.kin(-1), HeavierSide.BAD);
        Due.is("kin(100)", x.kin(100), HeavierSide.BAD);
        Due.is("kin(99)", x.kin(99), 0);
        x = Due.barge("m g10 g11 g10 g11 g10 g11 g11");
        Due.tells("kin(1) of seven", x, x.kin(1), 0, 0);
        Due.is("kin(0) of seven", x.kin(0), HeavierSide.NONE);
        x = Due.barge("m g20 g11 g11");
        Due.tells("kin(0)", x, x.kin(0), 0, 0);
        x = new HeavierSide();
        Due.tells("kin(0) of nobody", x, x.kin(0), 0, 0);
        x = Due.barge("m g30 g30 g20");
        Due.tells("kin(2) the least set", x, x.kin(2), 1, 1);
    }
}
