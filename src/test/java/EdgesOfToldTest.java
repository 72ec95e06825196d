import java.math.BigInteger;
import java.util.function.ToIntFunction;

/** Promises 45 to 51: each boundary that the document names for what is told. */
public final class EdgesOfToldTest {
    private static final int MOST = Edge.MOST, LEAST = Edge.LEAST, NONE = HeavierSide.NONE;

    public static void main(String[] args) {
        askedIsZeroBefore();
        askedByEachCallThatTells();
        askedStaysByTheOthers();
        askedStaysByRefusedOnes();
        askedStaysByNone();
        fractionBefore();
        fractionThatWasToldLast();
        fractionStaysByTheOthers();
        countOfEach();
        countOfTheMost();
        countIsRefused();
        findingIsZeroBefore();
        findingIsTheLatest();
        findingsOfEach();
        findingsIsRefused();
        digestOfANewObject();
        digestTellsByItsOrder();
        digestOfAllThatCanBe();
        digestLetsAllStay();
        Due.end();
    }

    // 45 "What the latest lay(), at(), mean(), bench(), guest(), rain(), list(), when(), worst(), where(), aisle(),
    // leavers(), far(), crossed(), divorce(), kin(), storm() that was not refused (nor NONE) told; 0 before."

    private static void askedIsZeroBefore() {
        Edge.answers("at once", Scene.empty(), x -> x.asked(), 0);
        Edge.answers("behind calls that tell none", Scene.barge("r9 g90").seats(0).limit(5), x -> x.asked(), 0);
        Edge.answers("behind refused ones", Scene.barge("r9 g90").then(x -> x.bench(1, 0)), x -> x.asked(), 0);
        Edge.answers("behind NONE", Scene.barge("r9 g90").then(x -> x.when()), x -> x.asked(), 0);
    }

    /** THE LIST is 2 SITTING, 7 STANDING, 2 KNEELING; the fraction 9 by 11, asked() 77. */
    private static Scene scene() {
        return Scene.barge("r1 l2 m a50 g30 g30 g10").rite("st").seats(0, 1, 0).quarrel(0, 2)
                .row(0, 77, 9, -1).row(1).row(2, 1).limit(5).then(x -> x.odds(0, 5)).then(x -> x.at(0, 0));
    }

    private static void told(String call, ToIntFunction<HeavierSide> made, int answer, int asked) {
        Edge.tells(call, scene(), made, answer, asked);
        Edge.tells(call + " twice", scene(), x -> made.applyAsInt(x) * 0 + made.applyAsInt(x) * 0, 0, asked);
    }

    private static void askedByEachCallThatTells() {
        Edge.tells("lay()", scene(), x -> x.lay(0, 1, 4), 1, 9);
        told("at()", x -> x.at(0, 1), 1, 9);
        told("mean()", x -> x.mean(0), 1, 28);
        told("bench()", x -> x.bench(1, 0), 1, -2);
        told("guest()", x -> x.guest(3, 3), 1, NONE);
        Edge.tells("rain()", scene(), x -> x.rain(4), 1, 0);
        told("list()", x -> x.list(1), 0, 7);
        told("when()", x -> x.when(), 1, 7);
        told("worst()", x -> x.worst(), 7, 1);
        told("where()", x -> x.where(3), 1, 2);
        Edge.tells("aisle()", scene().then(x -> x.peace(0)).rain(-6), x -> x.aisle(), NONE, 0);
        Edge.tells("aisle() that is some", Scene.barge("l1 r2 g30 g10").seats(0, 1).rain(-4), x -> x.aisle(), 1, 1);
        told("leavers()", x -> x.leavers(), 5, 5);
        told("far()", x -> x.far(3, 0), 2, 1);
        told("crossed()", x -> x.crossed(), 0, 1);
        told("divorce()", x -> x.divorce(), 0, 6);
        told("kin()", x -> x.kin(99), 0, 0);
        told("storm()", x -> x.storm(1), 1, 0);
    }

    private static void stays(String call, ToIntFunction<HeavierSide> made) {
        HeavierSide x = scene().make();
        Due.is(call + " is taken", made.applyAsInt(x) >= 0 ? 1 : 0, 1);
        Due.is("asked() stays by " + call, x.asked(), 77);
    }

    private static void askedStaysByTheOthers() {
        stays("row()", x -> x.row(0, 1));
        stays("tear()", x -> x.tear(0));
        stays("copy()", x -> x.copy(0, 0, 0, 1, 1));
        stays("text()", x -> x.text(2, 1));
        stays("put()", x -> x.put(0, 0, 1));
        stays("fault()", x -> x.fault(0, true));
        stays("barge()", x -> x.barge(0));
        stays("rite()", x -> x.rite(1));
        stays("mark()", x -> x.mark(0, 1));
        stays("limit()", x -> x.limit(9));
        stays("quarrel()", x -> x.quarrel(0, 1));
        stays("peace()", x -> x.peace(0));
        stays("seat()", x -> x.seat(3, 2));
        stays("rise()", x -> x.rise(0));
        stays("change()", x -> x.peace(0) + x.change(0, 1));
        stays("undo()", x -> x.undo());
        stays("keep()", x -> x.keep(0));
        stays("on()", x -> x.keep(0) + x.on(0));
        stays("minutes()", x -> x.minutes());
        stays("need()", x -> x.need());
        stays("best()", x -> x.best(3));
        stays("ways()", x -> x.ways());
        stays("sure()", x -> x.sure());
        stays("leave()", x -> x.leave(3));
        stays("invite()", x -> x.invite(2, 2, 3));
        stays("odds()", x -> x.odds(0, 9));
        stays("asked()", x -> x.asked());
        stays("upper(), lower()", x -> (int) (x.upper() + x.lower()));
        stays("count()", x -> x.count(9));
        stays("finding()", x -> x.finding());
        stays("findings()", x -> x.findings(1));
        stays("digest()", x -> (int) (x.digest() & 1));
    }

    private static void askedStaysByRefusedOnes() {
        Edge.bad("lay()", scene(), x -> x.lay(6, 0, 0));
        Edge.finds("lay() BEYOND", scene(), x -> x.lay(0, 3, 0), Edge.BEYOND);
        Edge.finds("at() BEYOND", scene(), x -> x.at(0, 3), Edge.BEYOND);
        Edge.finds("mean() NOUGHT", scene(), x -> x.mean(1), Edge.NOUGHT);
        Edge.bad("bench()", scene(), x -> x.bench(3, 0));
        Edge.bad("guest()", scene(), x -> x.guest(4, 0));
        Edge.bad("rain()", scene(), x -> x.rain(201));
        Edge.bad("list()", scene(), x -> x.list(3));
        Edge.bad("where()", scene(), x -> x.where(4));
        Edge.state("where() seated", scene(), x -> x.where(0));
        Edge.bad("far()", scene(), x -> x.far(4, 0));
        Edge.bad("kin()", scene(), x -> x.kin(100));
        Edge.bad("storm()", scene(), x -> x.storm(0));
    }

    private static void askedStaysByNone() {
        Edge.none("when()", scene().limit(999), x -> x.when());
        Edge.none("aisle()", scene(), x -> x.aisle());
        Edge.none("far()", scene().rain(200).then(x -> x.at(0, 0)), x -> x.far(3, 0));
        Edge.none("kin()", scene().text(3, "m g90").then(x -> x.barge(3)), x -> x.kin(8));
    }

    // 46 "The upper number of the fraction that was told last; 0 before." 47 "Its lower number; 1 before."

    private static void fractionBefore() {
        Edge.shares("at once", Scene.empty(), x -> 0, 0, 0, 1);
        Edge.shares("behind a refused one", Scene.empty(), x -> x.odds(0, 201), HeavierSide.BAD, 0, 1);
        Edge.shares("behind another refused one", Scene.empty(), x -> x.ways(), HeavierSide.STATE, 0, 1);
    }

    private static void fractionThatWasToldLast() {
        Edge.shares("odds()", scene(), x -> x.odds(0, 4), 8, 8, 9);
        Edge.shares("minutes()", scene(), x -> x.minutes(), 1, 1, 2);
        Edge.shares("ways()", scene().limit(8), x -> x.ways(), 2, 1, 1);
        Edge.shares("minutes() behind odds()", scene().then(x -> x.odds(0, 4)), x -> x.minutes(), 1, 1, 2);
        Edge.shares("0 by 1 behind another", scene().then(x -> x.odds(0, 4)).limit(0), x -> x.minutes(), 0, 0, 1);
    }

    private static void fractionStaysByTheOthers() {
        Edge.shares("list()", scene(), x -> x.list(0), 1, 9, 11);
        Edge.shares("sure()", scene(), x -> x.sure() * 0, 0, 9, 11);
        Edge.shares("best()", scene(), x -> x.best(3) * 0, 0, 9, 11);
        Edge.shares("barge()", scene(), x -> x.barge(0), 3, 9, 11);
        Edge.shares("ways() SPENT", scene().text(3, "m c10c10c10c10c10c10").then(x -> x.barge(3)), x -> x.ways(),
                HeavierSide.SPENT, 9, 11);
    }

    // 48 "0 BENCHES, 1 GUESTS, 2 those seated, 3 MINUTES of the RITE, 4 AUNTS (CHOIRS, too), 5 UNCLES (COUSINS, too), 6
    // ROWS, 7 TEXTS that are there, 8 QUARRELS, 9 DEEDS kept in mind. BAD."

    private static void counts(String what, Scene scene, int... due) {
        for (int i = 0; i < due.length; i++) {
            int of = i;
            Edge.answers(what + ": count(" + i + ")", scene, x -> x.count(of), due[i]);
        }
    }

    private static void countOfEach() {
        counts("new", Scene.empty(), 0, 0, 0, 1, 0, 0, 0, 0, 0, 0);
        counts("full", Scene.full(), 4, 6, 4, 3, 2, 2, 3, 3, 2, 7);
        counts("no AUNTS, no UNCLES", Scene.barge("m g10 c10"), 1, 2, 0, 1, 0, 0, 0, 1, 0, 0);
        counts("one of each", Scene.barge("m a10 u10"), 1, 2, 0, 1, 1, 1);
        counts("CHOIRS, COUSINS, too", Scene.barge("m h10 k10 k10"), 1, 3, 0, 1, 1, 2);
    }

    private static void countOfTheMost() {
        Scene most = Scene.barge("mmmmmmmm a10 h10 a10 h10 a10 h10 a10").rite("s".repeat(40)).text(2, "").text(3, "");
        for (int r = 0; r < 6; r++) {
            most = most.row(r);
        }
        for (int n = 0; n < 8; n++) {
            most = most.quarrel(5, 6);
        }
        for (int n = 0; n < 61; n++) {
            int bench = n % 2;
            most = most.then(x -> x.seat(0, bench));
        }
        counts("the most", most.seats(-1, 1, 2, 2, 3, 3, 5), 8, 7, 7, 40, 7, 0, 6, 4, 8, 60);
    }

    private static void countIsRefused() {
        for (int what : new int[] {LEAST, -1, 10, MOST}) {
            Edge.bad("count(" + what + ")", Scene.full(), x -> x.count(what));
        }
    }

    // 49 "The latest FINDING (0 before any)." 50 "How often a FINDING (1 .. 5) was answered. BAD."

    private static void findingIsZeroBefore() {
        Edge.answers("at once", Scene.empty(), x -> x.finding(), 0);
        Edge.answers("behind BAD", Scene.empty().then(x -> x.row(6, 0)), x -> x.finding(), 0);
        Edge.answers("behind STATE", Scene.empty().then(x -> x.undo()), x -> x.finding(), 0);
        Edge.answers("behind NONE", Scene.empty().then(x -> x.when()), x -> x.finding(), 0);
    }

    private static int find(HeavierSide x, int finding) {
        switch (finding) {
            case 1:
                return x.tear(5);
            case 2:
                return x.at(0, 9);
            case 3:
                return x.mark(0, 1);
            case 4:
                return x.mean(1);
            default:
                return x.row(0, -1);
        }
    }

    private static void findingIsTheLatest() {
        for (int f = 1; f <= 5; f++) {
            for (int g = 1; g <= 5; g++) {
                int first = f;
                int last = g;
                Edge.answers(last + " behind " + first, Scene.full().then(x -> find(x, first)).then(x -> find(x, last)),
                        x -> x.finding(), last);
            }
        }
        Edge.answers("it stays by what is taken", Scene.full().then(x -> find(x, 3)).then(x -> x.at(0, 0)), x -> x.finding(), 3);
    }

    private static void findingsOfEach() {
        for (int f = 1; f <= 5; f++) {
            int finding = f;
            Edge.answers("none of " + f, Scene.empty(), x -> x.findings(finding), 0);
        }
        int[] due = {2, 1, 0, 1, 0};
        for (int f = 1; f <= 5; f++) {
            int finding = f;
            Edge.answers("of " + f, Scene.full(), x -> x.findings(finding), due[f - 1]);
            Edge.answers("three more of " + f, Scene.full().then(x -> find(x, finding)).then(x -> find(x, finding))
                    .then(x -> find(x, finding)), x -> x.findings(finding), due[f - 1] + 3);
        }
        HeavierSide x = Scene.empty().make();
        for (int i = 0; i < 500; i++) {
            x.tear(0);
        }
        Due.is("five hundred times", x.findings(1), 500);
    }

    private static void findingsIsRefused() {
        for (int f : new int[] {LEAST, -1, 0, 6, MOST}) {
            Edge.bad("findings(" + f + ")", Scene.full(), x -> x.findings(f));
        }
    }

    // 51 "h = 17; then h = 31 h + v for each v (of a call that tells by asked(): what it tells, not the 1 that it answers;
    // asked() stays): count() 0 to 9; LIMIT, RAIN; of each BENCH bench() 0 to 3; of each GUEST guest() 0 to 4; of each
    // MINUTE its POSTURE; of each QUARREL both; of each kept BARGE the BENCH of each GUEST (-1 once: missing); of each ROW
    // its size (-1: missing) and places, of each TEXT likewise."

    private static long mixed(int... values) {
        BigInteger h = BigInteger.valueOf(17);
        for (int v : values) {
            h = h.multiply(BigInteger.valueOf(31)).add(BigInteger.valueOf(v));
        }
        return h.longValue();
    }

    private static void digestIs(String what, Scene scene, int... values) {
        Due.is("digest() of " + what, scene.make().digest(), mixed(values));
    }

    private static void digestOfANewObject() {
        digestIs("a new object", Scene.empty(),
                0, 0, 0, 1, 0, 0, 0, 0, 0, 0, 0, 0, 0, -1, -1, -1, -1, -1, -1, -1, -1, -1, -1, -1, -1, -1);
    }

    private static void digestTellsByItsOrder() {
        digestIs("LIMIT and RAIN", Scene.empty().limit(999).rain(-200),
                0, 0, 0, 1, 0, 0, 0, 0, 0, 0, 999, -200, 0, -1, -1, -1, -1, -1, -1, -1, -1, -1, -1, -1, -1, -1);
        digestIs("a RITE", Scene.empty().text(3, "tks").then(x -> x.rite(3)),
                0, 0, 0, 3, 0, 0, 0, 1, 0, 0, 0, 0, 1, 2, 0, -1, -1, -1, -1, -1, -1, -1, -1, -1, -1, -1, -1, 3, 't', 'k', 's');
        digestIs("ROWS", Scene.empty().row(0, LEAST, MOST).row(5),
                0, 0, 0, 1, 0, 0, 2, 0, 0, 0, 0, 0, 0, -1, -1, -1, 2, LEAST, MOST, -1, -1, -1, -1, 0, -1, -1, -1, -1);
        digestIs("TEXTS below 0", Scene.empty().text(0, "\u0080\u00ff\u007f").text(1, ""),
                0, 0, 0, 1, 0, 0, 0, 2, 0, 0, 0, 0, 0, -1, -1, -1, -1, -1, -1, -1, -1, -1, 3, -128, -1, 127, 0, -1, -1);
        digestIs("a kept BARGE without GUESTS", Scene.barge("m").then(x -> x.keep(1)),
                1, 0, 0, 1, 0, 0, 0, 1, 0, 0, 0, 0, 0, 0, 0, 0, 0, -1, -1, -1, -1, -1, -1, -1, -1, 1, 'm', -1, -1, -1);
    }

    private static void digestOfAllThatCanBe() {
        Scene scene = Scene.barge("l9 r1 k91 c20 h10").seats(0, 1).then(x -> x.keep(0)).then(x -> x.keep(2))
                .then(x -> x.rise(1)).quarrel(2, 0).quarrel(0, 1).rite("st").row(3, 5);
        digestIs("all that can be", scene,
                2, 3, 1, 2, 1, 1, 1, 2, 2, 3, 0, 0,
                -9, 1, 18, 1, 1, 0, 0, 0,
                5, 9, 1, 0, 18, 3, 2, 0, NONE, 2, 4, 1, 0, NONE, 1,
                0, 1,
                2, 0, 0, 1,
                0, 1, NONE, -1, 0, 1, NONE,
                -1, -1, -1, 1, 5, -1, -1,
                17, 'l', '9', ' ', 'r', '1', ' ', 'k', '9', '1', ' ', 'c', '2', '0', ' ', 'h', '1', '0',
                2, 's', 't', -1, -1);
    }

    private static void digestLetsAllStay() {
        HeavierSide x = Scene.full().make();
        long first = x.digest();
        Due.is("asked() stays", x.asked(), 12);
        Due.fraction("the fraction stays", x, 1, 7);
        Due.is("finding() stays", x.finding(), 4);
        Due.is("digest() again", x.digest(), first);
    }
}
