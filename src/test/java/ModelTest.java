import java.util.Random;

/** Long runs of calls by lots, each answer and what is told behind it held against the plain Model. */
public final class ModelTest {
    private static final int RUNS = 2500;
    /** An object is used for 512 calls; the last ones are left to those that look at findings() and count(). */
    private static final int CALLS = 380;

    private final Random lots;
    private final int run;
    private final HeavierSide x = new HeavierSide();
    private final Model m = new Model();
    private int calls = 0;

    private ModelTest(int run) {
        this.run = run;
        this.lots = new Random(run);
    }

    public static void main(String[] args) {
        for (int run = 0; run < RUNS; run++) {
            new ModelTest(run).go();
        }
        Due.end();
    }

    private void due(String call, long got, long want) {
        calls++;
        Due.is("run " + run + ": " + call, got, want);
    }

    private void go() {
        if (lots.nextInt(10) > 0) {
            tellBarge();
        }
        if (lots.nextInt(3) > 0) {
            tellRite();
        }
        due("limit", x.limit(30), m.limit(30));
        while (calls < CALLS) {
            String call = callOne();
            due("asked() behind " + call, x.asked(), m.asked());
            due("upper() behind " + call, x.upper(), m.upper());
            due("lower() behind " + call, x.lower(), m.lower());
            due("finding() behind " + call, x.finding(), m.finding());
            due("digest() behind " + call, x.digest(), m.digest());
        }
        for (int f = 0; f < 7; f++) {
            due("findings(" + f + ")", x.findings(f), m.findings(f));
        }
        for (int what = -1; what < 11; what++) {
            due("count(" + what + ")", x.count(what), m.count(what));
        }
        if (calls > 512) {
            throw new IllegalStateException("run " + run + " has " + calls + " calls");
        }
    }

    private String blanks() {
        return " ".repeat(lots.nextInt(8) == 0 ? 1 : 0);
    }

    private void tellBarge() {
        StringBuilder signs = new StringBuilder(blanks());
        int benches = 1 + lots.nextInt(lots.nextInt(3) == 0 ? 9 : 5);
        int guests = lots.nextInt(8) + (lots.nextInt(30) == 0 ? 1 : 0);
        for (int b = 0; b < benches; b++) {
            int side = lots.nextInt(5);
            signs.append(side == 0 ? "m" : (side < 3 ? "l" : "r") + (1 + lots.nextInt(9))).append(blanks());
        }
        for (int g = 0; g < guests; g++) {
            signs.append("gauchk".charAt(lots.nextInt(6))).append(1 + lots.nextInt(9))
                    .append(lots.nextInt(2)).append(blanks());
        }
        if (lots.nextInt(12) == 0) {
            signs.setCharAt(lots.nextInt(signs.length()), "lrmgauchk0129 x".charAt(lots.nextInt(15)));
        }
        int t = lots.nextInt(4);
        tellText(t, signs.toString());
        due("fault of '" + signs + "'", x.fault(t, false), m.fault(t, false));
        due("barge '" + signs + "'", x.barge(t), m.barge(t));
    }

    private void tellRite() {
        StringBuilder signs = new StringBuilder(blanks());
        int minutes = lots.nextInt(15) == 0 ? 35 + lots.nextInt(8) : lots.nextInt(7);
        for (int i = 0; i < minutes; i++) {
            signs.append("stk".charAt(lots.nextInt(3))).append(blanks());
        }
        if (lots.nextInt(12) == 0) {
            signs.append("stkxg1 ".charAt(lots.nextInt(7)));
        }
        int t = lots.nextInt(4);
        tellText(t, signs.toString());
        due("fault of '" + signs + "' as a rite", x.fault(t, true), m.fault(t, true));
        due("rite '" + signs + "'", x.rite(t), m.rite(t));
    }

    private void tellText(int t, String signs) {
        int n = Math.min(60, signs.length());
        due("text", x.text(t, n), m.text(t, n));
        for (int i = 0; i < n; i++) {
            due("put", x.put(t, i, signs.charAt(i)), m.put(t, i, signs.charAt(i)));
        }
    }

    /** Mostly one of 0 .. n - 1, at times a bit beyond, seldom far off. */
    private int some(int n) {
        int lot = lots.nextInt(200);
        if (lot == 0) {
            return new int[] {Integer.MIN_VALUE, Integer.MAX_VALUE, -1, -9, 61, 1 << 20}[lots.nextInt(6)];
        }
        return lot < 12 ? lots.nextInt(n + 3) - 1 : lots.nextInt(Math.max(1, n));
    }

    private int someGuest() {
        return some(m.count(1));
    }

    private int someBench() {
        return some(m.count(0));
    }

    private String callOne() {
        int lot = lots.nextInt(100);
        if (lot < 40) {
            return callDeed();
        }
        if (lot < 55) {
            return callRow();
        }
        return lot < 75 ? callOfList() : callOfSeatings();
    }

    private String callDeed() {
        int g = someGuest();
        int h = someGuest();
        int b = someBench();
        int k = some(3);
        switch (lots.nextInt(14)) {
            case 0:
                due("rise(" + g + ")", x.rise(g), m.rise(g));
                return "rise";
            case 1: case 2:
                due("change(" + g + ", " + h + ")", x.change(g, h), m.change(g, h));
                return "change";
            case 3:
                due("undo()", x.undo(), m.undo());
                return "undo";
            case 4:
                due("keep(" + k + ")", x.keep(k), m.keep(k));
                return "keep";
            case 5:
                due("on(" + k + ")", x.on(k), m.on(k));
                return "on";
            case 6: case 7:
                if (lots.nextInt(3) > 0) {
                    due("crossed()", x.crossed(), m.crossed());
                    return "crossed";
                }
                due("quarrel(" + g + ", " + h + ")", x.quarrel(g, h), m.quarrel(g, h));
                return "quarrel";
            case 8:
                int n = some(m.count(8) + 1);
                due("peace(" + n + ")", x.peace(n), m.peace(n));
                return "peace";
            default:
                due("seat(" + g + ", " + b + ")", x.seat(g, b), m.seat(g, b));
                return "seat";
        }
    }

    private String callRow() {
        int r = some(6);
        int i = some(4);
        int n = some(5);
        int v = lots.nextInt(10) == 0 ? lots.nextInt() : 1 + lots.nextInt(9);
        switch (lots.nextInt(10)) {
            case 0: case 1:
                due("row(" + r + ", " + n + ")", x.row(r, n), m.row(r, n));
                return "row";
            case 2: case 3: case 4:
                due("lay(" + r + ", " + i + ", " + v + ")", x.lay(r, i, v), m.lay(r, i, v));
                return "lay";
            case 5:
                due("at(" + r + ", " + i + ")", x.at(r, i), m.at(r, i));
                return "at";
            case 6:
                if (lots.nextInt(3) > 0) {
                    due("mean(" + r + ")", x.mean(r), m.mean(r));
                    return "mean";
                }
                due("tear(" + r + ")", x.tear(r), m.tear(r));
                return "tear";
            case 7:
                int to = some(6);
                int j = some(4);
                due("copy", x.copy(r, i, to, j, n), m.copy(r, i, to, j, n));
                return "copy";
            case 8:
                int t = some(4);
                due("put", x.put(t, i, v), m.put(t, i, v));
                due("fault", x.fault(t, v % 2 == 0), m.fault(t, v % 2 == 0));
                due("text", x.text(t, n), m.text(t, n));
                return "text";
            default:
                if (lots.nextInt(4) == 0) {
                    tellBarge();
                } else {
                    tellRite();
                }
                return "barge, rite";
        }
    }

    private String callOfList() {
        int g = someGuest();
        int posture = some(3);
        switch (lots.nextInt(13)) {
            case 0:
                int v = new int[] {some(1000), some(60), some(200)}[lots.nextInt(3)];
                due("limit(" + v + ")", x.limit(v), m.limit(v));
                return "limit";
            case 1:
                int rain = new int[] {some(210), -some(210), some(9)}[lots.nextInt(3)];
                due("rain(" + rain + ")", x.rain(rain), m.rain(rain));
                return "rain";
            case 2:
                int what = some(4);
                int b = someBench();
                due("bench(" + b + ", " + what + ")", x.bench(b, what), m.bench(b, what));
                return "bench";
            case 3:
                int told = some(5);
                due("guest(" + g + ", " + told + ")", x.guest(g, told), m.guest(g, told));
                return "guest";
            case 4: case 5:
                int kind = lots.nextInt(7);
                due("mark(" + g + ", " + kind + ")", x.mark(g, kind), m.mark(g, kind));
                return "mark";
            case 6:
                due("list(" + posture + ")", x.list(posture), m.list(posture));
                return "list";
            case 7:
                due("when()", x.when(), m.when());
                return "when";
            case 8:
                due("minutes()", x.minutes(), m.minutes());
                return "minutes";
            case 9:
                due("worst()", x.worst(), m.worst());
                return "worst";
            case 10:
                due("need()", x.need(), m.need());
                return "need";
            case 11:
                int k = some(201);
                due("odds(" + posture + ", " + k + ")", x.odds(posture, k), m.odds(posture, k));
                return "odds";
            default:
                int seed = lots.nextInt();
                due("storm(" + seed + ")", x.storm(seed), m.storm(seed));
                return "storm";
        }
    }

    private String callOfSeatings() {
        int g = someGuest();
        int r = some(6);
        switch (lots.nextInt(11)) {
            case 0:
                due("best(" + r + ")", x.best(r), m.best(r));
                return "best";
            case 1:
                due("ways()", x.ways(), m.ways());
                return "ways";
            case 2:
                due("sure()", x.sure(), m.sure());
                return "sure";
            case 3:
                due("where(" + g + ")", x.where(g), m.where(g));
                return "where";
            case 4:
                due("aisle()", x.aisle(), m.aisle());
                return "aisle";
            case 5:
                due("leave(" + r + ")", x.leave(r), m.leave(r));
                return "leave";
            case 6:
                due("leavers()", x.leavers(), m.leavers());
                return "leavers";
            case 7: case 8:
                return callInvite(r);
            case 9:
                due("divorce()", x.divorce(), m.divorce());
                int d = lots.nextInt(3) == 0 ? some(100) : some(8);
                due("kin(" + d + ")", x.kin(d), m.kin(d));
                return "divorce, kin";
            default:
                int posture = some(3);
                due("far(" + g + ", " + posture + ")", x.far(g, posture), m.far(g, posture));
                return "far";
        }
    }

    private String callInvite(int to) {
        int w = lots.nextInt(6);
        int costs = lots.nextInt(8) == 0 ? some(6) : (w + 1 + lots.nextInt(5)) % 6;
        if (lots.nextInt(6) > 0) {
            int n = lots.nextInt(20) == 0 ? 5 : lots.nextInt(5);
            int likewise = lots.nextInt(12) == 0 ? lots.nextInt(5) : n;
            due("row", x.row(w, n), m.row(w, n));
            due("row", x.row(costs, likewise), m.row(costs, likewise));
            for (int i = 0; i < 5; i++) {
                int weight = lots.nextInt(40) == 0 ? lots.nextInt(12) - 1 : 1 + lots.nextInt(9);
                int cost = lots.nextInt(40) == 0 ? 95 + lots.nextInt(8) : lots.nextInt(9);
                due("lay", x.lay(w, i, weight), m.lay(w, i, weight));
                due("lay", x.lay(costs, i, cost), m.lay(costs, i, cost));
            }
        }
        due("invite(" + w + ", " + costs + ", " + to + ")", x.invite(w, costs, to), m.invite(w, costs, to));
        return "invite";
    }
}
