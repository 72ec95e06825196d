import java.util.function.Consumer;
import java.util.function.ToIntFunction;

/** A way to make an object anew by the same calls each time, so that a test can have a twin of it. */
final class Scene {
    private final Scene before;
    private final Consumer<HeavierSide> step;

    private Scene(Scene before, Consumer<HeavierSide> step) {
        this.before = before;
        this.step = step;
    }

    static Scene empty() {
        return new Scene(null, x -> { });
    }

    static Scene barge(String signs) {
        return empty().text(0, signs).answers("barge '" + signs + "'", 1, x -> x.barge(0) > 0 ? 1 : 0);
    }

    /** Something of all that there is: a refused call has much to leave as it was. */
    static Scene full() {
        return barge("l2 r1 m r3 g51 a40 u30 c21 h60 k41").rite("stk").limit(7).rain(-3)
                .seats(0, 1, 3, 3).then(x -> x.change(0, 1)).then(x -> x.keep(0))
                .then(x -> x.rise(3)).then(x -> x.keep(2)).seats(-1, -1, -1, 2)
                .quarrel(0, 4).quarrel(1, 5)
                .row(0, 7, -8, 9).row(1).row(2, 1, 2).text(2, "")
                .then(x -> x.list(0)).then(x -> x.odds(0, 10))
                .then(x -> x.tear(5)).then(x -> x.tear(5)).then(x -> x.at(0, 9)).then(x -> x.mean(1));
    }

    Scene then(Consumer<HeavierSide> next) {
        return new Scene(this, next);
    }

    private Scene answers(String call, int due, ToIntFunction<HeavierSide> next) {
        return then(x -> Due.is("scene: " + call, next.applyAsInt(x), due));
    }

    Scene text(int t, String signs) {
        return then(x -> Due.text(x, t, signs));
    }

    Scene rite(String signs) {
        return then(x -> Due.rite(x, signs));
    }

    Scene row(int r, int... places) {
        return then(x -> Due.row(x, r, places));
    }

    /** For each GUEST its BENCH; below 0: it stays as it is. */
    Scene seats(int... benches) {
        return then(x -> Due.seats(x, benches));
    }

    Scene limit(int v) {
        return then(x -> x.limit(v));
    }

    Scene rain(int v) {
        return answers("rain(" + v + ")", 1, x -> x.rain(v));
    }

    Scene quarrel(int g, int h) {
        return then(x -> x.quarrel(g, h));
    }

    HeavierSide make() {
        HeavierSide x = before == null ? new HeavierSide() : before.make();
        step.accept(x);
        return x;
    }
}
