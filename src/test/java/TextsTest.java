/** Promises 8 to 12: TEXTS, and how BARGES and RITES are told by them. */
public final class TextsTest {
    private static final int NOTHING = 1, BEYOND = 2, SIZE = 5;

    public static void main(String[] args) {
        text();
        put();
        faultOfBarge();
        faultOfRite();
        faultRefused();
        barge();
        rite();
        Due.end();
    }

    private static void text() {
        HeavierSide x = new HeavierSide();
        Due.is("text(0, 60)", x.text(0, 60), 60);
        Due.is("text(3, 0)", x.text(3, 0), 0);
        Due.is("text(4, 0)", x.text(4, 0), HeavierSide.BAD);
        Due.is("text(-1, -1)", x.text(-1, -1), HeavierSide.BAD);
        Due.is("text(0, 61)", x.text(0, 61), HeavierSide.BAD);
        Due.finds("text(0, -1)", x, x.text(0, -1), SIZE);
        Due.is("put(0, 59, 7)", x.put(0, 59, 7), 1032);
        Due.is("put(0, 0, 7)", x.put(0, 0, 7), 1032);
        Due.is("text(0, 60) anew", x.text(0, 60), 60);
        Due.is("put(0, 0, 7) again", x.put(0, 0, 7), 1032);
        Due.is("put(0, 59, 7) again", x.put(0, 59, 7), 1032);
        Due.is("count(7)", x.count(7), 2);
    }

    private static void put() {
        HeavierSide x = new HeavierSide();
        Due.is("put(4, 0, 1)", x.put(4, 0, 1), HeavierSide.BAD);
        Due.finds("put(0, -1, 1)", x, x.put(0, -1, 1), NOTHING);
        x.text(0, 2);
        Due.finds("put(0, 2, 1)", x, x.put(0, 2, 1), BEYOND);
        Due.finds("put(0, -1, 1)", x, x.put(0, -1, 1), BEYOND);
        Due.is("put(0, 1, 128)", x.put(0, 1, 128), 1032);
        Due.is("put(0, 1, 300)", x.put(0, 1, 300), 872);
        Due.is("put(0, 1, -1)", x.put(0, 1, -1), 1044);
        Due.is("put(0, 1, 256)", x.put(0, 1, 256), 999);
        Due.is("put(0, 1, 0)", x.put(0, 1, 0), 1000);
        Due.is("asked() stays", x.asked(), 0);
    }

    private static void faultIs(String signs, boolean rite, int place) {
        HeavierSide x = new HeavierSide();
        Due.text(x, 2, signs);
        Due.is("fault of '" + signs + "', " + rite, x.fault(2, rite), place);
        int taken = rite ? x.rite(2) : x.barge(2);
        Due.is("'" + signs + "' is taken", taken == HeavierSide.STATE ? 0 : 1, place == HeavierSide.NONE ? 1 : 0);
    }

    private static void faultOfBarge() {
        faultIs("m", false, HeavierSide.NONE);
        faultIs("  l1r9m g10 h91k51  ", false, HeavierSide.NONE);
        faultIs("l1l2l3l4mr1r2r3g10a11u20c91h31k40g50", false, HeavierSide.NONE);
        faultIs("", false, 0);
        faultIs("    ", false, 4);
        faultIs("l", false, 1);
        faultIs("l0", false, 1);
        faultIs("l 1", false, 1);
        faultIs("l12", false, 2);
        faultIs("m1", false, 1);
        faultIs("l1 x", false, 3);
        faultIs("L1", false, 0);
        faultIs(" g10", false, 1);
        faultIs("mg", false, 2);
        faultIs("mg1", false, 3);
        faultIs("mg0", false, 2);
        faultIs("mg12", false, 3);
        faultIs("mg1 0", false, 3);
        faultIs("mg 10", false, 2);
        faultIs("mg10m", false, 4);
        faultIs("mg10 l1", false, 5);
        faultIs("mmmmmmmml", false, 8);
        faultIs("mmmmmmmm l1", false, 9);
        faultIs("mg10g10g10g10g10g10g10 g", false, 23);
        faultIs("ms10", false, 1);
        faultIs("m\u00ed", false, 1);
    }

    private static void faultOfRite() {
        faultIs("s", true, HeavierSide.NONE);
        faultIs(" st  k ", true, HeavierSide.NONE);
        faultIs("s".repeat(40) + " ", true, HeavierSide.NONE);
        faultIs("s".repeat(40) + "  t", true, 42);
        faultIs("", true, 0);
        faultIs("   ", true, 3);
        faultIs("stg", true, 2);
        faultIs("S", true, 0);
    }

    private static void faultRefused() {
        HeavierSide x = new HeavierSide();
        Due.is("fault(4, false)", x.fault(4, false), HeavierSide.BAD);
        Due.is("fault(-1, true)", x.fault(-1, true), HeavierSide.BAD);
        Due.finds("fault(1, false)", x, x.fault(1, false), NOTHING);
        Due.finds("fault(1, true)", x, x.fault(1, true), NOTHING);
    }

    private static void barge() {
        HeavierSide x = new HeavierSide();
        Due.is("barge(4)", x.barge(4), HeavierSide.BAD);
        Due.finds("barge(0)", x, x.barge(0), NOTHING);
        Due.text(x, 0, "l2 r3m g51 c20");
        Due.is("barge(0)", x.barge(0), 3);
        int[] xs = {-2, 3, 0};
        for (int b = 0; b < xs.length; b++) {
            Due.tells("bench(" + b + ", 0)", x, x.bench(b, 0), 1, xs[b]);
        }
        Due.is("count(1)", x.count(1), 2);
        x.limit(9);
        x.rain(-4);
        Due.rite(x, "tk");
        Due.seats(x, 0, 2);
        x.quarrel(0, 1);
        x.keep(0);
        x.keep(1);
        Due.text(x, 0, "l");
        Due.is("barge(0) with a FAULT", x.barge(0), HeavierSide.STATE);
        Due.is("refused: they sit", x.count(2), 2);
        Due.text(x, 0, "m r1 c11 c90 g10");
        Due.is("barge(0) anew", x.barge(0), 2);
        int[] counts = {2, 3, 0, 2, 0, 0};
        for (int what = 0; what < counts.length; what++) {
            Due.is("anew: count(" + what + ")", x.count(what), counts[what]);
        }
        Due.is("anew: no QUARRELS", x.count(8), 0);
        Due.is("anew: no DEEDS", x.count(9), 0);
        Due.is("anew: undo()", x.undo(), HeavierSide.STATE);
        Due.finds("anew: on(0)", x, x.on(0), NOTHING);
        Due.finds("anew: on(1)", x, x.on(1), NOTHING);
        Due.tells("anew: bench(0, 3)", x, x.bench(0, 3), 1, 0);
        Due.seats(x, 0, 0, 0);
        Due.tells("anew: CHILDREN take no SEATS", x, x.bench(0, 1), 1, 1);
        Due.is("LIMIT stays", x.limit(0), 9);
        Due.tells("RAIN stays", x, x.rain(0), 1, -4);
    }

    private static void rite() {
        HeavierSide x = Due.barge("r2 a10 u10");
        Due.seats(x, 0, 0);
        Due.is("rite(-1)", x.rite(-1), HeavierSide.BAD);
        Due.finds("rite(3)", x, x.rite(3), NOTHING);
        Due.text(x, 3, "t t k");
        Due.is("rite(3)", x.rite(3), 3);
        Due.is("count(3)", x.count(3), 3);
        Due.tells("worst()", x, x.worst(), 7, 0);
        Due.text(x, 3, "kx");
        Due.is("rite(3) with a FAULT", x.rite(3), HeavierSide.STATE);
        Due.is("refused: count(3)", x.count(3), 3);
        Due.text(x, 3, "k");
        Due.is("rite(3) anew", x.rite(3), 1);
        Due.tells("anew: worst()", x, x.worst(), 4, 0);
    }
}
