/** Promises 20 to 25: seat, rise, change, undo, keep, on. */
public final class DeedsTest {
    private static final int NOTHING = 1;

    public static void main(String[] args) {
        seat();
        seatByQuarrels();
        rise();
        change();
        changeSeats();
        changeByQuarrels();
        undo();
        sixtyDeeds();
        keepAndOn();
        Due.end();
    }

    private static void sits(HeavierSide x, int g, int b) {
        Due.tells("guest(" + g + ", 3)", x, x.guest(g, 3), 1, b);
    }

    private static void seat() {
        HeavierSide x = Due.barge("l1 r1 g10 g20 g30 c40 c50");
        Due.is("seat(5, 0)", x.seat(5, 0), HeavierSide.BAD);
        Due.is("seat(-1, 0)", x.seat(-1, 0), HeavierSide.BAD);
        Due.is("seat(0, 2)", x.seat(0, 2), HeavierSide.BAD);
        Due.is("seat(0, -1)", x.seat(0, -1), HeavierSide.BAD);
        Due.is("seat(0, 1)", x.seat(0, 1), 1);
        Due.is("seat(0, 1) already", x.seat(0, 1), HeavierSide.STATE);
        Due.is("seat(1, 1)", x.seat(1, 1), 1);
        Due.is("seat(2, 1) no SEAT", x.seat(2, 1), HeavierSide.STATE);
        Due.is("a CHILD takes none", x.seat(3, 1), 1);
        Due.is("nor another", x.seat(4, 1), 1);
        Due.is("seat(0, 0) from another one", x.seat(0, 0), 0);
        sits(x, 0, 0);
        Due.tells("bench(1, 3)", x, x.bench(1, 3), 1, 26);
        Due.is("now one is free", x.seat(2, 1), 1);
        Due.is("count(2)", x.count(2), 5);
    }

    private static void seatByQuarrels() {
        HeavierSide x = Due.barge("l1 l2 m r1 g10 c20 g30");
        x.quarrel(1, 0);
        Due.seats(x, 1);
        int[] answers = {HeavierSide.STATE, HeavierSide.STATE, HeavierSide.STATE, 3};
        for (int b = 0; b < 4; b++) {
            Due.is("seat(1, " + b + ")", x.seat(1, b), answers[b]);
        }
        Due.is("seat(0, 2) towards it", x.seat(0, 2), HeavierSide.STATE);
        Due.is("seat(0, 0) away", x.seat(0, 0), 0);
        Due.is("seat(2, 0) has none", x.seat(2, 0), 0);
    }

    private static void rise() {
        HeavierSide x = Due.barge("l1 r1 g10");
        Due.is("rise(1)", x.rise(1), HeavierSide.BAD);
        Due.is("rise(-1)", x.rise(-1), HeavierSide.BAD);
        Due.is("rise(0)", x.rise(0), HeavierSide.STATE);
        Due.seats(x, 1);
        Due.is("rise(0)", x.rise(0), 1);
        sits(x, 0, HeavierSide.NONE);
        Due.tells("bench(1, 1)", x, x.bench(1, 1), 1, 0);
        Due.is("rise(0) again", x.rise(0), HeavierSide.STATE);
    }

    private static void change() {
        HeavierSide x = Due.barge("l1 r1 g10 g20 g30");
        Due.seats(x, 0, 1);
        Due.is("change(0, 0)", x.change(0, 0), HeavierSide.BAD);
        Due.is("change(0, 3)", x.change(0, 3), HeavierSide.BAD);
        Due.is("change(-1, 0)", x.change(-1, 0), HeavierSide.BAD);
        Due.is("change(0, 2) not seated", x.change(0, 2), HeavierSide.STATE);
        Due.is("change(2, 0) not seated", x.change(2, 0), HeavierSide.STATE);
        Due.is("change(1, 0)", x.change(1, 0), 1);
        sits(x, 0, 1);
        sits(x, 1, 0);
        Due.is("seat(2, 0)", x.seat(2, 0), 0);
        Due.is("change(1, 2) on one BENCH", x.change(1, 2), HeavierSide.STATE);
    }

    private static void changeSeats() {
        HeavierSide x = Due.barge("l1 r1 g10 g20 g30 c40 g50");
        Due.seats(x, 0, 0, 1, 0);
        Due.is("no SEAT instead of a CHILD", x.change(2, 3), HeavierSide.STATE);
        Due.is("nor the other way round", x.change(3, 2), HeavierSide.STATE);
        sits(x, 2, 1);
        sits(x, 3, 0);
        Due.is("both BENCHES being full is fine", x.seat(4, 1), 1);
        Due.is("change(0, 2)", x.change(0, 2), 1);
        x.rise(1);
        Due.is("a SEAT is free by now", x.change(3, 0), 1);
        sits(x, 0, 0);
        sits(x, 3, 1);
    }

    private static void changeByQuarrels() {
        HeavierSide x = Due.barge("l1 l2 m r1 r2 g10 g20 g30 g40");
        Due.seats(x, 0, 2, 4, 0);
        x.quarrel(0, 1);
        Due.is("two who quarrel, far apart", x.change(0, 1), 1);
        Due.is("back", x.change(0, 1), 1);
        Due.is("0 would come next to 1", x.seat(2, 1), 1);
        Due.is("change(2, 0)", x.change(2, 0), HeavierSide.STATE);
        Due.is("change(0, 2)", x.change(0, 2), HeavierSide.STATE);
        sits(x, 0, 0);
        sits(x, 2, 1);
        x.peace(0);
        x.quarrel(1, 2);
        Due.is("two who quarrel next to one another", x.change(1, 2), HeavierSide.STATE);
        Due.is("away from a QUARREL that is broken", x.change(0, 2), 1);
        x = Due.barge("l1 l2 m r1 r2 g10 g20 g30 g40");
        Due.seats(x, 0, 4, 2, 2);
        x.quarrel(2, 3);
        Due.is("QUARRELS of others aside", x.change(0, 1), 1);
    }

    private static void undo() {
        HeavierSide x = Due.barge("l1 r1 g10 g20");
        Due.is("undo() of none", x.undo(), HeavierSide.STATE);
        Due.seats(x, 0, 1);
        Due.seats(x, 1);
        x.rise(1);
        Due.seats(x, -1, 0);
        x.change(0, 1);
        x.seat(0, 5);
        x.rise(9);
        Due.is("count(9)", x.count(9), 6);
        x.quarrel(0, 1);
        Due.is("undo() change", x.undo(), 2);
        sits(x, 0, 1);
        sits(x, 1, 0);
        Due.is("undo() seat", x.undo(), 0);
        sits(x, 1, HeavierSide.NONE);
        Due.is("undo() rise, whatever QUARRELS", x.undo(), 1);
        sits(x, 1, 1);
        Due.is("undo() seat from another one", x.undo(), 0);
        sits(x, 0, 0);
        Due.is("undo()", x.undo(), 0);
        Due.is("undo()", x.undo(), 0);
        Due.is("count(2)", x.count(2), 0);
        Due.is("undo() of none", x.undo(), HeavierSide.STATE);
    }

    private static void sixtyDeeds() {
        HeavierSide x = Due.barge("l1 r1 g10");
        for (int i = 0; i < 63; i++) {
            Due.is("seat(0, " + i % 2 + ")", x.seat(0, i % 2), i % 2);
        }
        Due.is("count(9)", x.count(9), 60);
        for (int i = 0; i < 60; i++) {
            Due.is("undo()", x.undo(), 0);
            sits(x, 0, (i + 1) % 2);
        }
        Due.is("the first three are forgotten", x.undo(), HeavierSide.STATE);
        Due.is("it sits as behind the third", x.rise(0), 0);
        Due.is("count(9)", x.count(9), 1);
        x = Due.barge("l1 r1 g10 g20");
        Due.seats(x, 0, 1);
        for (int i = 0; i < 20; i++) {
            Due.is("change(0, 1)", x.change(0, 1), 1);
            Due.is("rise(1)", x.rise(1), i % 2);
            Due.is("seat(1, ..)", x.seat(1, i % 2), i % 2);
        }
        x.change(1, 0);
        for (int i = 0; i < 60; i++) {
            Due.is("undo() of sixty unlike ones, " + i, x.undo(), i % 3 == 0 ? 2 : i % 3 == 1 ? 0 : 1);
        }
        sits(x, 0, 1);
        sits(x, 1, 0);
        Due.is("no more", x.undo(), HeavierSide.STATE);
    }

    private static void keepAndOn() {
        HeavierSide x = new HeavierSide();
        Due.is("keep(3)", x.keep(3), HeavierSide.BAD);
        Due.is("keep(-1)", x.keep(-1), HeavierSide.BAD);
        Due.is("keep(0) without BENCHES", x.keep(0), HeavierSide.STATE);
        x = Due.barge("l1 r1 g10 g20");
        Due.is("on(3)", x.on(3), HeavierSide.BAD);
        Due.is("on(-1)", x.on(-1), HeavierSide.BAD);
        Due.finds("on(2)", x, x.on(2), NOTHING);
        Due.is("keep(2) of nobody", x.keep(2), 0);
        Due.seats(x, 0, 0);
        Due.is("keep(0)", x.keep(0), 2);
        Due.is("DEEDS stay", x.count(9), 2);
        x.rise(0);
        x.seat(1, 1);
        Due.is("keep(1)", x.keep(1), 1);
        x.quarrel(0, 1);
        Due.is("on(0), whatever QUARRELS", x.on(0), 2);
        sits(x, 0, 0);
        sits(x, 1, 0);
        Due.is("no DEEDS then", x.undo(), HeavierSide.STATE);
        Due.is("on(1)", x.on(1), 1);
        sits(x, 0, HeavierSide.NONE);
        sits(x, 1, 1);
        Due.is("on(2)", x.on(2), 0);
        Due.is("count(2)", x.count(2), 0);
        Due.is("keep(0) anew", x.keep(0), 0);
        Due.is("on(0)", x.on(0), 0);
    }
}
