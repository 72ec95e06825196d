import java.lang.reflect.Method;
import java.lang.reflect.Modifier;
import java.util.ArrayList;
import java.util.Arrays;
import java.util.List;

/**
 * Every call with every mix of ordinary arguments, of those just beyond a bound and of the farthest ones, in several
 * states; each on an object of its own that is held against the Model. None may throw.
 */
public final class ExtremesTest {
    private static final int LEAST = Integer.MIN_VALUE, MOST = Integer.MAX_VALUE;
    private static final int[] MANY = {LEAST, LEAST + 1, -1000, -201, -200, -129, -61, -9, -2, -1, 0, 1, 2, 3, 4, 5, 6, 7,
        8, 9, 10, 40, 41, 60, 61, 99, 100, 200, 201, 999, 1000, 65536, MOST - 1, MOST};
    private static final int[] SOME = {LEAST, -1, 0, 1, 2, 3, 4, 5, 6, 60, MOST};
    private static final int[] FEW = {LEAST, -1, 0, 2, 3, 6, MOST};

    /** A call of the class and the same of the Model, and what they are told. */
    private record Call(Method due, Method twin, Object[] told) { }

    private final List<Call> calls = new ArrayList<>();
    private final String state;

    private ExtremesTest(String state) {
        this.state = state;
    }

    public static void main(String[] args) throws Exception {
        for (ExtremesTest test : List.of(fresh(), midway(), crowded(), seated())) {
            test.go();
        }
        Due.end();
    }

    private ExtremesTest call(String name, int... told) throws NoSuchMethodException {
        Class<?>[] types = new Class<?>[told.length];
        Arrays.fill(types, int.class);
        calls.add(new Call(HeavierSide.class.getDeclaredMethod(name, types), Model.class.getDeclaredMethod(name, types),
                Arrays.stream(told).boxed().toArray()));
        return this;
    }

    private ExtremesTest text(int t, String signs) throws NoSuchMethodException {
        call("text", t, signs.length());
        for (int i = 0; i < signs.length(); i++) {
            call("put", t, i, signs.charAt(i));
        }
        return this;
    }

    private static ExtremesTest fresh() {
        return new ExtremesTest("new");
    }

    private static ExtremesTest midway() throws NoSuchMethodException {
        return new ExtremesTest("midway").text(0, "l2r1mr3 g51a40u30c21h60k41").call("barge", 0)
                .text(1, "stk").call("rite", 1).call("limit", 9).call("rain", -3).text(3, "")
                .call("seat", 0, 0).call("seat", 1, 1).call("seat", 2, 3).call("seat", 3, 3).call("change", 0, 1)
                .call("keep", 0).call("rise", 3).call("quarrel", 0, 4).call("quarrel", 1, 5)
                .call("row", 0, 3).call("lay", 0, 0, 7).call("lay", 0, 1, 5).call("lay", 0, 2, 9)
                .call("row", 2, 2).call("lay", 2, 1, 3).call("row", 3, 0).call("tear", 5);
    }

    private static ExtremesTest crowded() throws NoSuchMethodException {
        ExtremesTest it = new ExtremesTest("crowded").text(0, "l9l5l1mr1r5r9m g90a91u20c31h40k51g60").call("barge", 0)
                .text(1, "s".repeat(39) + "k").call("rite", 1).call("limit", 999).call("rain", 200).call("seat", 6, 7);
        for (int n = 0; n < 8; n++) {
            it.call("quarrel", n % 7, (n + 1) % 7);
        }
        return it.call("row", 0, 4).call("lay", 0, 0, 9).call("lay", 0, 1, 1).call("lay", 0, 2, 2).call("lay", 0, 3, 3);
    }

    private static ExtremesTest seated() throws NoSuchMethodException {
        ExtremesTest it = new ExtremesTest("seated").text(2, "l1r1 g10c20g31g41").call("barge", 2)
                .call("seat", 1, 0).call("seat", 2, 1).call("seat", 3, 1);
        for (int n = 0; n < 60; n++) {
            it.call("seat", 0, n % 2).call("rise", 0);
        }
        return it.call("seat", 0, 0).call("keep", 0).call("keep", 1).call("keep", 2).call("quarrel", 2, 3);
    }

    private void go() throws Exception {
        for (Method call : HeavierSide.class.getDeclaredMethods()) {
            if (Modifier.isPublic(call.getModifiers())) {
                everyMix(call, new Object[call.getParameterCount()], 0);
            }
        }
    }

    private void everyMix(Method call, Object[] told, int place) throws Exception {
        if (place == told.length) {
            compare(call, told);
            return;
        }
        if (call.getParameterTypes()[place] == boolean.class) {
            for (boolean v : new boolean[] {false, true}) {
                told[place] = v;
                everyMix(call, told, place + 1);
            }
            return;
        }
        for (int v : told.length < 3 ? MANY : told.length == 3 ? SOME : FEW) {
            told[place] = v;
            everyMix(call, told, place + 1);
        }
    }

    private void compare(Method call, Object[] told) throws Exception {
        HeavierSide x = new HeavierSide();
        Model m = new Model();
        for (Call before : calls) {
            before.due().invoke(x, before.told());
            before.twin().invoke(m, before.told());
        }
        String what = state + ": " + call.getName() + Arrays.toString(told);
        Method twin = Model.class.getDeclaredMethod(call.getName(), call.getParameterTypes());
        Due.is(what, ((Number) call.invoke(x, told)).longValue(), ((Number) twin.invoke(m, told)).longValue());
        Due.is(what + ": asked()", x.asked(), m.asked());
        Due.is(what + ": upper()", x.upper(), m.upper());
        Due.is(what + ": lower()", x.lower(), m.lower());
        Due.is(what + ": finding()", x.finding(), m.finding());
        Due.is(what + ": digest()", x.digest(), m.digest());
    }
}
