import java.nio.charset.StandardCharsets;

/** What all tests share: a count of wrong answers, and short ways to make barges and rows. */
final class Due {
    private static int wrong = 0;
    private static int checked = 0;

    private Due() {
    }

    static void is(String call, long got, long want) {
        checked++;
        if (got != want) {
            wrong++;
            System.out.println(call + " answered " + got + ", due is " + want);
        }
    }

    /** A call that tells by asked(). */
    static void tells(String call, HeavierSide x, long got, long want, long asked) {
        is(call, got, want);
        is(call + " by asked()", x.asked(), asked);
    }

    static void fraction(String call, HeavierSide x, long upper, long lower) {
        is(call + " by upper()", x.upper(), upper);
        is(call + " by lower()", x.lower(), lower);
    }

    static void finds(String call, HeavierSide x, long got, int finding) {
        is(call, got, HeavierSide.FINDING);
        is(call + " by finding()", x.finding(), finding);
    }

    static void text(HeavierSide x, int t, String signs) {
        byte[] bytes = signs.getBytes(StandardCharsets.ISO_8859_1);
        is("text(" + t + ", ..)", x.text(t, bytes.length), bytes.length);
        for (int i = 0; i < bytes.length; i++) {
            x.put(t, i, bytes[i]);
        }
    }

    static void row(HeavierSide x, int r, int... places) {
        is("row(" + r + ", ..)", x.row(r, places.length), places.length);
        for (int i = 0; i < places.length; i++) {
            is("lay(" + r + ", " + i + ", ..)", x.lay(r, i, places[i]), 1);
        }
    }

    static void rowIs(HeavierSide x, String what, int r, int... places) {
        for (int i = 0; i < places.length; i++) {
            tells(what + ": at(" + r + ", " + i + ")", x, x.at(r, i), 1, places[i]);
        }
        is(what + ": at(" + r + ", its size)", x.at(r, places.length), HeavierSide.FINDING);
    }

    static HeavierSide barge(String signs) {
        HeavierSide x = new HeavierSide();
        text(x, 0, signs);
        is("fault of '" + signs + "'", x.fault(0, false), HeavierSide.NONE);
        if (x.barge(0) < 1) {
            is("barge '" + signs + "'", 0, 1);
        }
        return x;
    }

    static void rite(HeavierSide x, String signs) {
        text(x, 1, signs);
        if (x.rite(1) < 1) {
            is("rite '" + signs + "'", 0, 1);
        }
    }

    static void seats(HeavierSide x, int... benches) {
        for (int g = 0; g < benches.length; g++) {
            if (benches[g] >= 0) {
                is("seat(" + g + ", " + benches[g] + ")", x.seat(g, benches[g]), benches[g]);
            }
        }
    }

    static void end() {
        System.out.println(checked + " answers looked at, " + wrong + " not as due");
        if (wrong != 0 || checked == 0) {
            System.exit(1);
        }
    }
}
