/** Promises 13 to 19: BENCHES, GUESTS and their KINDS, LIMIT, RAIN, QUARRELS. */
public final class BargeTest {
    private static final int UNLIKE = 3;

    public static void main(String[] args) {
        bench();
        guest();
        markOfAunts();
        markOfUncles();
        markOfOthers();
        markRefused();
        limit();
        rain();
        quarrel();
        peace();
        Due.end();
    }

    private static void bench() {
        HeavierSide x = Due.barge("l9 m g30 u20 c51");
        Due.seats(x, 0, 0, 0);
        int[] tells = {-9, 2, 12, 7};
        for (int what = 0; what < tells.length; what++) {
            Due.tells("bench(0, " + what + ")", x, x.bench(0, what), 1, tells[what]);
            Due.tells("bench(1, " + what + ")", x, x.bench(1, what), 1, 0);
        }
        x.bench(0, 3);
        Due.tells("bench(2, 0)", x, x.bench(2, 0), HeavierSide.BAD, 7);
        Due.tells("bench(-1, 0)", x, x.bench(-1, 0), HeavierSide.BAD, 7);
        Due.tells("bench(0, 4)", x, x.bench(0, 4), HeavierSide.BAD, 7);
        Due.tells("bench(0, -1)", x, x.bench(0, -1), HeavierSide.BAD, 7);
    }

    private static void guest() {
        HeavierSide x = Due.barge("l1 m g11 a20 u31 c40 h51 k60");
        Due.seats(x, -1, -1, 1);
        int[][] tells = {
            {0, 1, 1, HeavierSide.NONE, 1}, {1, 2, 0, HeavierSide.NONE, 2}, {2, 3, 1, 1, 6},
            {3, 4, 0, HeavierSide.NONE, 4}, {4, 5, 1, HeavierSide.NONE, 5}, {5, 6, 0, HeavierSide.NONE, 12}};
        for (int g = 0; g < tells.length; g++) {
            for (int what = 0; what < 5; what++) {
                Due.tells("guest(" + g + ", " + what + ")", x, x.guest(g, what), 1, tells[g][what]);
            }
        }
        Due.is("guest(6, 0)", x.guest(6, 0), HeavierSide.BAD);
        Due.is("guest(-1, 0)", x.guest(-1, 0), HeavierSide.BAD);
        Due.is("guest(0, 5)", x.guest(0, 5), HeavierSide.BAD);
        Due.is("guest(0, -1)", x.guest(0, -1), HeavierSide.BAD);
    }

    private static void markOfAunts() {
        HeavierSide x = Due.barge("l2 r1 m a30 h40");
        Due.is("an AUNT not seated", x.mark(0, 1), 0);
        Due.is("a CHOIR not seated, as an AUNT", x.mark(1, 1), 0);
        Due.is("a CHOIR not seated", x.mark(1, 4), 0);
        Due.seats(x, 0, 0);
        Due.is("an AUNT to the left", x.mark(0, 1), -3);
        Due.is("a CHOIR to the left, as an AUNT", x.mark(1, 1), -8);
        Due.is("how far out a CHOIR STANDS", x.mark(1, 4), 4);
        Due.seats(x, 1, 2);
        Due.is("an AUNT to the right", x.mark(0, 1), 3);
        Due.is("a CHOIR in the middle, as an AUNT", x.mark(1, 1), 0);
        Due.is("a CHOIR STANDS in the middle", x.mark(1, 4), 0);
    }

    private static void markOfUncles() {
        HeavierSide x = Due.barge("l1 r2 m r9 u30 k40 k11 g50 g61");
        Due.is("an UNCLE not seated", x.mark(0, 2), 0);
        Due.is("a COUSIN not seated, as an UNCLE", x.mark(1, 2), 0);
        Due.is("KIN of a COUSIN, nobody seated", x.mark(1, 5), 0);
        Due.seats(x, 0, 0);
        Due.is("an UNCLE one out to the left", x.mark(0, 2), 6);
        Due.is("a COUSIN one out, no less than 0", x.mark(1, 2), 8);
        Due.seats(x, 1, 3);
        Due.is("an UNCLE to the right", x.mark(0, 2), -6);
        Due.is("a COUSIN far out", x.mark(1, 2), -16);
        Due.seats(x, 2, 2);
        Due.is("an UNCLE in the middle", x.mark(0, 2), 0);
        Due.is("a COUSIN in the middle", x.mark(1, 2), 0);
        Due.seats(x, -1, -1, -1, 0, 0);
        Due.is("KIN of a seated COUSIN", x.mark(1, 5), 2);
        Due.is("KIN of a COUSIN who is not", x.mark(2, 5), 1);
    }

    private static void markOfOthers() {
        HeavierSide x = Due.barge("l1 r2 c30 c40 g10 g11");
        Due.is("a CHILD not seated", x.mark(0, 3), HeavierSide.NONE);
        Due.seats(x, 0);
        Due.is("a CHILD alone", x.mark(0, 3), 0);
        Due.seats(x, -1, 0, 0, 1);
        Due.is("a CHILD with another one and a GUEST", x.mark(0, 3), 2);
        Due.is("asked() stays", x.asked(), 0);
    }

    private static void markRefused() {
        HeavierSide x = Due.barge("m g10 a10 u10 c10 h10 k10");
        boolean[][] is = new boolean[6][6];
        for (int g = 0; g < 6; g++) {
            is[g][g] = true;
        }
        is[4][1] = true;
        is[5][2] = true;
        int unlike = 0;
        for (int g = 0; g < 6; g++) {
            Due.is("mark(" + g + ", 0)", x.mark(g, 0), HeavierSide.BAD);
            for (int kind = 1; kind < 6; kind++) {
                int got = x.mark(g, kind);
                Due.is("mark(" + g + ", " + kind + ") is UNLIKE", got == HeavierSide.FINDING ? 1 : 0, is[g][kind] ? 0 : 1);
                unlike += is[g][kind] ? 0 : 1;
            }
        }
        Due.is("finding()", x.finding(), UNLIKE);
        Due.is("findings(3)", x.findings(UNLIKE), unlike);
        Due.is("mark(6, 1)", x.mark(6, 1), HeavierSide.BAD);
        Due.is("mark(-1, 1)", x.mark(-1, 1), HeavierSide.BAD);
        Due.is("mark(1, 6)", x.mark(1, 6), HeavierSide.BAD);
        Due.is("mark(1, -1)", x.mark(1, -1), HeavierSide.BAD);
    }

    private static void limit() {
        HeavierSide x = new HeavierSide();
        Due.is("limit(999)", x.limit(999), 0);
        Due.is("limit(1000)", x.limit(1000), HeavierSide.BAD);
        Due.is("limit(-1)", x.limit(-1), HeavierSide.BAD);
        Due.is("limit(0)", x.limit(0), 999);
        x.rain(2);
        Due.is("list(0) beyond it", x.list(0), 0);
        Due.is("limit(2)", x.limit(2), 0);
        Due.is("list(0) just within", x.list(0), 1);
    }

    private static void rain() {
        HeavierSide x = new HeavierSide();
        Due.tells("rain(-200)", x, x.rain(-200), 1, 0);
        Due.tells("rain(200)", x, x.rain(200), 1, -200);
        Due.tells("rain(201)", x, x.rain(201), HeavierSide.BAD, -200);
        Due.tells("rain(-201)", x, x.rain(-201), HeavierSide.BAD, -200);
        Due.tells("list(1)", x, x.list(1), 0, 200);
    }

    private static void quarrel() {
        HeavierSide x = Due.barge("l1 r1 g10 g20");
        Due.seats(x, 0, 0);
        Due.is("quarrel(0, 0)", x.quarrel(0, 0), HeavierSide.BAD);
        Due.is("quarrel(0, 2)", x.quarrel(0, 2), HeavierSide.BAD);
        Due.is("quarrel(-1, 1)", x.quarrel(-1, 1), HeavierSide.BAD);
        for (int n = 0; n < 8; n++) {
            Due.is("quarrel(1, 0)", x.quarrel(n % 2, 1 - n % 2), n);
        }
        Due.is("a ninth", x.quarrel(0, 1), HeavierSide.FULL);
        Due.is("a ninth that is BAD", x.quarrel(0, 0), HeavierSide.BAD);
        Due.is("count(8)", x.count(8), 8);
        Due.is("they sit as they sit", x.count(2), 2);
        x = Due.barge("m m g10 g10 g10 g10 g10 g10 g10");
        x.quarrel(6, 0);
        Due.seats(x, 0);
        Due.is("the last GUEST quarrels as others", x.seat(6, 1), HeavierSide.STATE);
        x = Due.barge("m m g10 g10 g10 g10 g10 g10 g10");
        x.quarrel(0, 6);
        Due.seats(x, 0);
        Due.is("whoever is told first", x.seat(6, 1), HeavierSide.STATE);
    }

    private static void peace() {
        HeavierSide x = Due.barge("l1 m r1 g10 g20 g30");
        x.quarrel(0, 1);
        x.quarrel(0, 2);
        x.quarrel(1, 2);
        Due.is("peace(4)", x.peace(4), HeavierSide.BAD);
        Due.is("peace(-1)", x.peace(-1), HeavierSide.BAD);
        Due.is("peace(3)", x.peace(3), 0);
        Due.is("peace(1)", x.peace(1), 2);
        Due.is("count(8)", x.count(8), 1);
        Due.seats(x, 0);
        Due.is("the first one goes on", x.seat(1, 1), HeavierSide.STATE);
        Due.is("the second one is over", x.seat(2, 1), 1);
        Due.is("peace(0)", x.peace(0), 1);
        Due.is("seat(1, 1)", x.seat(1, 1), 1);
        Due.is("peace(0) again", x.peace(0), 0);
        Due.is("quarrel(2, 0)", x.quarrel(2, 0), 0);
    }
}
