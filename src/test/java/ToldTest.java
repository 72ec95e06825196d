/** Promises 45 to 51: what is told. */
public final class ToldTest {
    public static void main(String[] args) {
        asked();
        fractions();
        count();
        findings();
        digestOfNew();
        digestOfAll();
        Due.end();
    }

    private static void asked() {
        HeavierSide x = new HeavierSide();
        Due.is("asked() before", x.asked(), 0);
        x = Due.barge("l3 r3 g20 g30");
        Due.seats(x, 0, 1);
        x.list(0);
        Due.is("asked()", x.asked(), 3);
        x.row(0, 1);
        x.limit(5);
        x.keep(0);
        x.minutes();
        x.need();
        x.best(0);
        x.ways();
        x.sure();
        x.mark(0, 1);
        x.count(0);
        x.odds(0, 1);
        x.change(0, 1);
        x.undo();
        x.on(0);
        x.leave(0);
        x.invite(1, 1, 1);
        x.findings(1);
        x.finding();
        x.digest();
        Due.is("asked() stays by calls that tell none", x.asked(), 3);
        x.list(3);
        x.when();
        x.aisle();
        x.far(0, 9);
        x.where(0);
        x.kin(0);
        x.at(0, 9);
        x.storm(0);
        Due.is("asked() stays by refusals and NONE", x.asked(), 3);
    }

    private static void fractions() {
        HeavierSide x = new HeavierSide();
        Due.fraction("before", x, 0, 1);
        x.odds(0, 7);
        Due.fraction("odds", x, 1, 15);
        x.odds(0, 999);
        x.ways();
        Due.fraction("stays by refusals", x, 1, 15);
        x.minutes();
        Due.fraction("minutes", x, 1, 1);
        x.odds(0, 7);
        x.rain(5);
        x.minutes();
        Due.fraction("minutes 0 by 1", x, 0, 1);
    }

    private static void count() {
        HeavierSide x = Due.barge("l1 m r1 a10 h20 u31 k11 c50 g10");
        Due.rite(x, "sstk");
        Due.seats(x, 0, 0, 1);
        x.quarrel(0, 1);
        x.row(0, 0);
        x.row(5, 3);
        x.row(3, 3);
        x.tear(3);
        int[] due = {3, 6, 3, 4, 2, 2, 2, 2, 1, 3};
        for (int what = 0; what < due.length; what++) {
            Due.is("count(" + what + ")", x.count(what), due[what]);
        }
        Due.is("count(10)", x.count(10), HeavierSide.BAD);
        Due.is("count(-1)", x.count(-1), HeavierSide.BAD);
    }

    private static void findings() {
        HeavierSide x = new HeavierSide();
        Due.is("finding() before", x.finding(), 0);
        for (int f = 1; f <= 5; f++) {
            Due.is("findings(" + f + ") before", x.findings(f), 0);
        }
        Due.is("findings(0)", x.findings(0), HeavierSide.BAD);
        Due.is("findings(6)", x.findings(6), HeavierSide.BAD);
        x.row(0, -1);
        x.row(0, 0);
        x.at(0, 0);
        x.mean(0);
        x.tear(1);
        x.tear(1);
        x.tear(9);
        x.undo();
        Due.is("finding() stays by others", x.finding(), 1);
        int[] due = {2, 1, 0, 1, 1};
        for (int f = 1; f <= 5; f++) {
            Due.is("findings(" + f + ")", x.findings(f), due[f - 1]);
        }
    }

    private static long mixed(long... values) {
        long h = 17;
        for (long v : values) {
            h = 31 * h + v;
        }
        return h;
    }

    private static void digestOfNew() {
        Due.is("digest() of a new object", new HeavierSide().digest(), mixed(
                0, 0, 0, 1, 0, 0, 0, 0, 0, 0, 0, 0,
                0,
                -1, -1, -1,
                -1, -1, -1, -1, -1, -1,
                -1, -1, -1, -1));
    }

    private static void digestOfAll() {
        HeavierSide x = Due.barge("l3 m u20 c91");
        Due.rite(x, "kt");
        x.limit(44);
        x.rain(-55);
        Due.seats(x, 0);
        x.quarrel(1, 0);
        x.quarrel(0, 1);
        x.keep(1);
        Due.row(x, 4, 6, -7);
        x.text(0, 0);
        x.text(3, 1);
        x.put(3, 0, 200);
        Due.is("digest()", x.digest(), mixed(
                2, 2, 1, 2, 0, 1, 1, 3, 2, 1, 44, -55,
                -3, 1, 4, 1, 0, 0, 0, 0,
                2, 2, 0, 0, 4, 3, 9, 1, -9, 9,
                2, 1,
                1, 0, 0, 1,
                -1, 0, -9, -1,
                -1, -1, -1, -1, 2, 6, -7, -1,
                0, 2, 'k', 't', -1, 1, -56));
    }
}
