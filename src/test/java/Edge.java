import java.util.function.ToIntFunction;
import java.util.function.ToLongFunction;

/** Tests of one boundary each, every one on an object of its own. */
final class Edge {
    static final int NOTHING = 1, BEYOND = 2, UNLIKE = 3, NOUGHT = 4, SIZE = 5;
    static final int LEAST = Integer.MIN_VALUE, MOST = Integer.MAX_VALUE;
    private static final int STATE = HeavierSide.STATE, FINDING = HeavierSide.FINDING;

    private Edge() {
    }

    static void answers(String what, Scene scene, ToIntFunction<HeavierSide> call, int answer) {
        Due.is(what, call.applyAsInt(scene.make()), answer);
    }

    /** What a call answers, and what asked() tells behind it. */
    static void tells(String what, Scene scene, ToIntFunction<HeavierSide> call, int answer, int asked) {
        HeavierSide x = scene.make();
        Due.tells(what, x, call.applyAsInt(x), answer, asked);
    }

    /** What a call answers, and the fraction that it tells. */
    static void shares(String what, Scene scene, ToIntFunction<HeavierSide> call, int answer, long upper, long lower) {
        HeavierSide x = scene.make();
        Due.is(what, call.applyAsInt(x), answer);
        Due.fraction(what, x, upper, lower);
    }

    /** What a call answers, and which ints a ROW has behind it. */
    static void brings(String what, Scene scene, ToIntFunction<HeavierSide> call, int answer, int r, int... places) {
        HeavierSide x = scene.make();
        Due.is(what, call.applyAsInt(x), answer);
        Due.rowIs(x, what, r, places);
    }

    static void bad(String what, Scene scene, ToIntFunction<HeavierSide> call) {
        refused(what, scene, call, HeavierSide.BAD);
    }

    static void state(String what, Scene scene, ToIntFunction<HeavierSide> call) {
        refused(what, scene, call, STATE);
    }

    /** NONE, too: nothing is told then, and a ROW stays as it is. */
    static void none(String what, Scene scene, ToIntFunction<HeavierSide> call) {
        refused(what, scene, call, HeavierSide.NONE);
    }

    /** A call that is refused (not by a FINDING): all is as in a twin that was not called. */
    static void refused(String what, Scene scene, ToIntFunction<HeavierSide> call, int answer) {
        HeavierSide x = scene.make();
        Due.is(what, call.applyAsInt(x), answer);
        untouched(what, x, scene.make(), 0);
    }

    /** A call that is refused by a FINDING: all but finding(), findings() is as in a twin. */
    static void finds(String what, Scene scene, ToIntFunction<HeavierSide> call, int finding) {
        HeavierSide x = scene.make();
        Due.is(what, call.applyAsInt(x), FINDING);
        untouched(what, x, scene.make(), finding);
    }

    /** A call that answers and leaves what digest() tells as it was. */
    static void leavesAll(String what, Scene scene, ToLongFunction<HeavierSide> call) {
        HeavierSide x = scene.make();
        call.applyAsLong(x);
        Due.is(what + " leaves all as it is", x.digest(), scene.make().digest());
        sameDeeds(what, x, scene.make());
    }

    private static void untouched(String what, HeavierSide x, HeavierSide twin, int finding) {
        Due.is(what + ": digest() stays", x.digest(), twin.digest());
        Due.is(what + ": asked() stays", x.asked(), twin.asked());
        Due.is(what + ": upper() stays", x.upper(), twin.upper());
        Due.is(what + ": lower() stays", x.lower(), twin.lower());
        Due.is(what + ": finding()", x.finding(), finding == 0 ? twin.finding() : finding);
        for (int f = NOTHING; f <= SIZE; f++) {
            Due.is(what + ": findings(" + f + ")", x.findings(f), twin.findings(f) + (f == finding ? 1 : 0));
        }
        sameDeeds(what, x, twin);
    }

    /** digest() tells only how many DEEDS there are: going back in both shows which. */
    private static void sameDeeds(String what, HeavierSide x, HeavierSide twin) {
        int undone = 0;
        for (int i = 0; i <= 60 && undone != STATE; i++) {
            undone = twin.undo();
            Due.is(what + ": undo() stays", x.undo(), undone);
            Due.is(what + ": undo() to the same", x.digest(), twin.digest());
        }
    }
}
