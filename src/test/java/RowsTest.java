/** Promises 1 to 7: a new object, and ROWS. */
public final class RowsTest {
    private static final int NOTHING = 1, BEYOND = 2, NOUGHT = 4, SIZE = 5;

    public static void main(String[] args) {
        newObject();
        row();
        lay();
        at();
        tear();
        copy();
        copyRefused();
        mean();
        Due.end();
    }

    private static void newObject() {
        HeavierSide x = new HeavierSide();
        int[] counts = {0, 0, 0, 1, 0, 0, 0, 0, 0, 0};
        for (int what = 0; what < counts.length; what++) {
            Due.is("new: count(" + what + ")", x.count(what), counts[what]);
        }
        Due.is("new: limit(3)", x.limit(3), 0);
        Due.tells("new: rain(3)", x, x.rain(3), 1, 0);
        Due.finds("new: at(0, 0)", x, x.at(0, 0), NOTHING);
        Due.finds("new: put(3, 0, 1)", x, x.put(3, 0, 1), NOTHING);
        Due.finds("new: on(2)", x, x.on(2), NOTHING);
        Due.is("new: bench(0, 0)", x.bench(0, 0), HeavierSide.BAD);
    }

    private static void row() {
        HeavierSide x = new HeavierSide();
        Due.is("row(0, 60)", x.row(0, 60), 60);
        Due.is("row(5, 0)", x.row(5, 0), 0);
        Due.is("row(6, 0)", x.row(6, 0), HeavierSide.BAD);
        Due.is("row(-1, 0)", x.row(-1, 0), HeavierSide.BAD);
        Due.is("row(0, 61)", x.row(0, 61), HeavierSide.BAD);
        Due.is("row(6, -1)", x.row(6, -1), HeavierSide.BAD);
        Due.is("no finding by BAD", x.finding(), 0);
        Due.finds("row(0, -1)", x, x.row(0, -1), SIZE);
        Due.is("a refused row() leaves the ROW", x.lay(0, 59, 7), 1);
        Due.is("lay(0, 0, 7)", x.lay(0, 0, 7), 1);
        Due.is("row(0, 2) anew", x.row(0, 2), 2);
        Due.rowIs(x, "row anew", 0, 0, 0);
        Due.is("row(0, 60) again", x.row(0, 60), 60);
        Due.tells("the old int is gone", x, x.at(0, 59), 1, 0);
        Due.is("count(6)", x.count(6), 2);
    }

    private static void lay() {
        HeavierSide x = new HeavierSide();
        Due.is("lay(6, 0, 1)", x.lay(6, 0, 1), HeavierSide.BAD);
        Due.is("lay(-1, 0, 1)", x.lay(-1, 0, 1), HeavierSide.BAD);
        Due.finds("lay(1, -5, 1) missing", x, x.lay(1, -5, 1), NOTHING);
        x.row(1, 3);
        Due.tells("lay(1, 2, 8)", x, x.lay(1, 2, 8), 1, 0);
        Due.tells("lay(1, 2, MIN)", x, x.lay(1, 2, Integer.MIN_VALUE), 1, 8);
        Due.tells("lay(1, 2, 1)", x, x.lay(1, 2, 1), 1, Integer.MIN_VALUE);
        Due.finds("lay(1, 3, 1)", x, x.lay(1, 3, 1), BEYOND);
        Due.finds("lay(1, -1, 1)", x, x.lay(1, -1, 1), BEYOND);
        Due.is("refused: asked() stays", x.asked(), Integer.MIN_VALUE);
        Due.rowIs(x, "lay", 1, 0, 0, 1);
    }

    private static void at() {
        HeavierSide x = new HeavierSide();
        Due.is("at(6, 0)", x.at(6, 0), HeavierSide.BAD);
        Due.finds("at(2, 0)", x, x.at(2, 0), NOTHING);
        Due.row(x, 2, 5, -6);
        Due.tells("at(2, 0)", x, x.at(2, 0), 1, 5);
        Due.tells("at(2, 1)", x, x.at(2, 1), 1, -6);
        Due.finds("at(2, 2)", x, x.at(2, 2), BEYOND);
        Due.finds("at(2, MIN)", x, x.at(2, Integer.MIN_VALUE), BEYOND);
    }

    private static void tear() {
        HeavierSide x = new HeavierSide();
        Due.is("tear(6)", x.tear(6), HeavierSide.BAD);
        Due.finds("tear(3)", x, x.tear(3), NOTHING);
        x.row(3, 0);
        Due.is("tear(3)", x.tear(3), 1);
        Due.finds("tear(3) again", x, x.tear(3), NOTHING);
        Due.finds("at(3, 0)", x, x.at(3, 0), NOTHING);
        Due.is("count(6)", x.count(6), 0);
    }

    private static void copy() {
        HeavierSide x = new HeavierSide();
        Due.row(x, 0, 1, 2, 3, 4, 5);
        Due.row(x, 1, 9, 9);
        Due.is("copy(0, 3, 1, 0, 2)", x.copy(0, 3, 1, 0, 2), 1);
        Due.rowIs(x, "copy to another", 1, 4, 5);
        Due.is("copy(0, 0, 0, 1, 4)", x.copy(0, 0, 0, 1, 4), 1);
        Due.rowIs(x, "copy onto itself, upwards", 0, 1, 1, 2, 3, 4);
        Due.is("copy(0, 2, 0, 0, 3)", x.copy(0, 2, 0, 0, 3), 1);
        Due.rowIs(x, "copy onto itself, downwards", 0, 2, 3, 4, 3, 4);
        Due.is("copy(0, 5, 1, 2, 0) at the ends", x.copy(0, 5, 1, 2, 0), 1);
        Due.rowIs(x, "copy of none", 1, 4, 5);
    }

    private static void copyRefused() {
        HeavierSide x = new HeavierSide();
        Due.is("copy(6, 0, 0, 0, -1)", x.copy(6, 0, 0, 0, -1), HeavierSide.BAD);
        Due.is("copy(0, 0, -1, 0, -1)", x.copy(0, 0, -1, 0, -1), HeavierSide.BAD);
        Due.finds("copy(0, -1, 1, 0, -1)", x, x.copy(0, -1, 1, 0, -1), SIZE);
        x.row(0, 3);
        Due.finds("copy to a missing one", x, x.copy(0, -1, 1, 0, 1), NOTHING);
        Due.finds("copy from a missing one", x, x.copy(1, -1, 0, 0, 1), NOTHING);
        x.row(1, 2);
        Due.finds("copy(0, -1, 1, 0, 0)", x, x.copy(0, -1, 1, 0, 0), BEYOND);
        Due.finds("copy(0, 4, 1, 0, 0)", x, x.copy(0, 4, 1, 0, 0), BEYOND);
        Due.finds("copy(0, 0, 1, -1, 0)", x, x.copy(0, 0, 1, -1, 0), BEYOND);
        Due.finds("copy(0, 0, 1, 3, 0)", x, x.copy(0, 0, 1, 3, 0), BEYOND);
        Due.finds("copy(0, 0, 1, 0, 3)", x, x.copy(0, 0, 1, 0, 3), BEYOND);
        Due.finds("copy(1, 0, 0, 0, 3)", x, x.copy(1, 0, 0, 0, 3), BEYOND);
        Due.finds("copy(0, 2, 1, 0, 2)", x, x.copy(0, 2, 1, 0, 2), BEYOND);
        Due.finds("copy(0, 0, 1, 1, 2)", x, x.copy(0, 0, 1, 1, 2), BEYOND);
        Due.finds("copy(0, 1, 0, 1, MAX)", x, x.copy(0, 1, 0, 1, Integer.MAX_VALUE), BEYOND);
    }

    private static void mean() {
        HeavierSide x = new HeavierSide();
        Due.is("mean(-1)", x.mean(-1), HeavierSide.BAD);
        Due.finds("mean(4)", x, x.mean(4), NOTHING);
        x.row(4, 0);
        Due.finds("mean(4) of none", x, x.mean(4), NOUGHT);
        Due.row(x, 4, 7, 4);
        Due.tells("mean(4)", x, x.mean(4), 1, 5);
        x.row(4, 1);
        Due.tells("mean(4) of those there alone", x, x.mean(4), 1, 0);
        Due.row(x, 4, -7, -4);
        Due.tells("mean(4) below 0, cut", x, x.mean(4), 1, -5);
        Due.row(x, 4, Integer.MAX_VALUE, Integer.MAX_VALUE, Integer.MAX_VALUE);
        Due.tells("mean(4) of great ones", x, x.mean(4), 1, Integer.MAX_VALUE);
    }
}
