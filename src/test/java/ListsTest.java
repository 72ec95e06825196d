/** Promises 26 to 30: how it lists. */
public final class ListsTest {
    public static void main(String[] args) {
        list();
        kindsByPosture();
        when();
        minutes();
        worst();
        need();
        Due.end();
    }

    private static void list() {
        HeavierSide x = Due.barge("l3 r2 m g50 g41 g90");
        Due.seats(x, 0, 1, 2);
        Due.tells("list(0)", x, x.list(0), 0, -7);
        x.limit(7);
        Due.tells("list(0) as much as the LIMIT", x, x.list(0), 1, -7);
        x.rain(15);
        Due.tells("list(0) with RAIN", x, x.list(0), 0, 8);
        Due.tells("list(3)", x, x.list(3), HeavierSide.BAD, 8);
        Due.tells("list(-1)", x, x.list(-1), HeavierSide.BAD, 8);
        x.rise(0);
        Due.tells("list(2) of those seated", x, x.list(2), 0, 23);
    }

    private static void kindOnly(char letter, int bench, int sitting, int standing, int kneeling) {
        HeavierSide x = Due.barge("l3 l1 m r1 r2 " + letter + "50");
        Due.seats(x, bench);
        Due.tells(letter + " on " + bench + " SITTING", x, x.list(0), sitting == 0 ? 1 : 0, sitting);
        Due.tells(letter + " on " + bench + " STANDING", x, x.list(1), standing == 0 ? 1 : 0, standing);
        Due.tells(letter + " on " + bench + " KNEELING", x, x.list(2), kneeling == 0 ? 1 : 0, kneeling);
    }

    private static void kindsByPosture() {
        for (int b = 0; b < 5; b++) {
            int x = new int[] {-3, -1, 0, 1, 2}[b];
            kindOnly('g', b, 5 * x, 5 * x, 5 * x);
            kindOnly('c', b, 5 * x, 5 * x, 5 * x);
            kindOnly('a', b, 5 * x, 5 * (x + Integer.signum(x)), 5 * x);
            kindOnly('h', b, 5 * x, 5 * (x + 2 * Integer.signum(x)), 5 * x);
            kindOnly('u', b, 10 * x, 10 * x, 10 * (x - Integer.signum(x)));
            kindOnly('k', b, 10 * x, 10 * x, b == 0 ? -10 : 0);
        }
    }

    private static void when() {
        HeavierSide x = Due.barge("r2 a50");
        Due.seats(x, 0);
        x.limit(12);
        Due.is("when() without a RITE", x.when(), HeavierSide.NONE);
        Due.rite(x, "ksstst");
        Due.tells("when()", x, x.when(), 3, 15);
        x.limit(9);
        Due.tells("when() at once", x, x.when(), 0, 10);
        x.limit(10);
        x.rain(-20);
        Due.rite(x, "t");
        Due.is("when() in its MINUTES alone", x.when(), HeavierSide.NONE);
        Due.is("minutes() of one", x.minutes(), 1);
        x.rain(-24);
        Due.is("when() STANDING alone", x.when(), HeavierSide.NONE);
        Due.is("minutes() of one, STANDING", x.minutes(), 1);
        x.rain(0);
        Due.rite(x, "ksstst");
        x.limit(15);
        x.list(1);
        x.rain(-5);
        Due.tells("when() never", x, x.when(), HeavierSide.NONE, 0);
    }

    private static void minutes() {
        HeavierSide x = Due.barge("r2 a50");
        Due.seats(x, 0);
        Due.is("minutes()", x.minutes(), 0);
        Due.fraction("minutes() 0", x, 0, 1);
        x.limit(10);
        Due.rite(x, "sstktt");
        Due.is("minutes()", x.minutes(), 3);
        Due.fraction("minutes()", x, 1, 2);
        x.limit(15);
        Due.is("minutes()", x.minutes(), 6);
        Due.fraction("minutes() all", x, 1, 1);
        x.limit(10);
        Due.rite(x, "sstks");
        Due.is("minutes()", x.minutes(), 4);
        Due.fraction("minutes()", x, 4, 5);
        Due.rite(x, "t");
        Due.is("minutes() STANDING alone", x.minutes(), 0);
        Due.fraction("minutes() 0 by 1", x, 0, 1);
    }

    private static void worst() {
        HeavierSide x = Due.barge("l2 a50 u30");
        Due.seats(x, 0, 0);
        Due.tells("worst() without a RITE", x, x.worst(), 22, 0);
        Due.rite(x, "kstkt");
        Due.tells("worst()", x, x.worst(), 27, 2);
        Due.rite(x, "kts");
        Due.tells("worst()", x, x.worst(), 27, 1);
        Due.rite(x, "kk");
        Due.tells("worst() alike", x, x.worst(), 16, 0);
        x.rain(200);
        Due.rite(x, "stk");
        Due.tells("worst() to the other side", x, x.worst(), 184, 2);
    }

    private static void need() {
        HeavierSide x = Due.barge("r9r9r9m k90 k90 k90 k90 k90 k90 g10");
        Due.seats(x, 0, 0, 1, 1, 2, 2);
        x.rain(27);
        Due.is("need() just so", x.need(), 999);
        x.rain(28);
        x.list(0);
        Due.tells("need() above", x, x.need(), HeavierSide.NONE, 1000);
        Due.rite(x, "k");
        Due.is("need() by the RITE", x.need(), 784);
    }
}
