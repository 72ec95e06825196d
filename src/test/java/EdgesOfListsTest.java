/** Promises 26 to 30, MOMENTS and THE LIST: each boundary that the document names for how it lists. */
public final class EdgesOfListsTest {
    private static final int MOST = Edge.MOST, LEAST = Edge.LEAST;

    public static void main(String[] args) {
        momentOfEachKind();
        momentOfAnAuntStanding();
        momentOfAChoirStanding();
        momentOfAnUncleKneeling();
        momentOfACousinKneeling();
        momentInTheMiddleIsAsItIs();
        listIsOfThoseSeatedAndTheRain();
        listIsLevelByItsSize();
        listIsRefused();
        whenIsTheFirstMinute();
        whenIsNone();
        minutesOfAll();
        minutesWithoutARite();
        worstIsTheFirstSuchMinute();
        worstBySize();
        worstOfNobody();
        needIsWithinTheLimit();
        needIsNone();
        needIsInEachMinute();
        allStaysAsItIs();
        Due.end();
    }

    private static void list(String signs, int posture, int due) {
        Scene one = Scene.barge(signs).seats(0);
        Edge.tells("'" + signs + "' in POSTURE " + posture, one, x -> x.list(posture), due == 0 ? 1 : 0, due);
    }

    // "The MOMENT of a GUEST on a BENCH: what it WEIGHS (its WEIGHT; an UNCLE, a COUSIN twice that) times X"

    private static void momentOfEachKind() {
        for (char letter : "gachuk".toCharArray()) {
            int times = letter == 'u' || letter == 'k' ? 2 : 1;
            list("l9 " + letter + "90", 0, -81 * times);
            list("l1 " + letter + "10", 0, -times);
            list("m " + letter + "90", 0, 0);
            list("r1 " + letter + "10", 0, times);
            list("r9 " + letter + "90", 0, 81 * times);
        }
    }

    /** "STANDING an AUNT counts as one farther out" */
    private static void momentOfAnAuntStanding() {
        list("l1 a50", 1, -10);
        list("r1 a50", 1, 10);
        list("r9 a50", 1, 50);
        list("r2 a50", 2, 10);
    }

    /** ".. a CHOIR as two" */
    private static void momentOfAChoirStanding() {
        list("l1 h50", 1, -15);
        list("r1 h50", 1, 15);
        list("r9 h90", 1, 99);
        list("r2 h50", 2, 10);
    }

    /** "KNEELING an UNCLE as one less far out .. but no less than 0 out" */
    private static void momentOfAnUncleKneeling() {
        list("l2 u50", 2, -10);
        list("r2 u50", 2, 10);
        list("l1 u50", 2, 0);
        list("r1 u50", 2, 0);
        list("r2 u50", 1, 20);
    }

    /** ".. a COUSIN as two less, but no less than 0 out" */
    private static void momentOfACousinKneeling() {
        list("l3 k50", 2, -10);
        list("r3 k50", 2, 10);
        list("r2 k50", 2, 0);
        list("l1 k50", 2, 0);
        list("r1 k50", 2, 0);
        list("r3 k50", 1, 30);
    }

    /** "(in the middle as it is)" */
    private static void momentInTheMiddleIsAsItIs() {
        for (char letter : "gauchk".toCharArray()) {
            for (int posture = 0; posture <= 2; posture++) {
                list("m " + letter + "90", posture, 0);
            }
        }
        for (int posture = 1; posture <= 2; posture++) {
            list("r4 g50", posture, 20);
            list("l4 c50", posture, -20);
        }
    }

    // 26 "THE LIST in a POSTURE, told by asked() (perhaps below 0): 1, if it is LEVEL, else 0. BAD."
    // "THE LIST in a POSTURE is all MOMENTS of those seated, and the RAIN (0 at first)."

    private static void listIsOfThoseSeatedAndTheRain() {
        Scene scene = Scene.barge("l3 r1 g50 a40 u30");
        Edge.tells("nobody", scene, x -> x.list(0), 1, 0);
        Edge.tells("nobody, RAIN", scene.rain(-200), x -> x.list(0), 0, -200);
        Edge.tells("one", scene.seats(0), x -> x.list(0), 0, -15);
        Edge.tells("two, STANDING", scene.seats(0, 1), x -> x.list(1), 0, -7);
        Edge.tells("three, RAIN", scene.seats(0, 1, 1).rain(8), x -> x.list(0), 0, 3);
        Edge.tells("one has risen", scene.seats(0, 1, 1).then(x -> x.rise(0)), x -> x.list(0), 0, 10);
        Edge.tells("no BENCHES", Scene.empty().rain(7), x -> x.list(2), 0, 7);
    }

    /** "It is LEVEL, if THE LIST's size is no more than the LIMIT (0 at first)." */
    private static void listIsLevelByItsSize() {
        int[][] cases = {{0, 0, 1}, {1, 0, 0}, {-1, 0, 0}, {5, 5, 1}, {6, 5, 0}, {-5, 5, 1}, {-6, 5, 0}, {200, 199, 0},
            {-200, 199, 0}, {200, 200, 1}, {-200, 200, 1}, {200, 999, 1}};
        for (int[] c : cases) {
            Scene scene = Scene.empty().rain(c[0]).limit(c[1]);
            Edge.tells("RAIN " + c[0] + " by LIMIT " + c[1], scene, x -> x.list(0), c[2], c[0]);
        }
    }

    private static void listIsRefused() {
        for (int posture : new int[] {LEAST, -1, 3, MOST}) {
            Edge.bad("list(" + posture + ")", Scene.full(), x -> x.list(posture));
        }
    }

    // 27 "The first MINUTE (0, 1, ..) in which it is not LEVEL, by those who are seated; THE LIST then by asked().
    // NONE: there is none."

    /** THE LIST: -10 SITTING, -15 STANDING, -10 KNEELING. */
    private static Scene auntToTheLeft(String rite) {
        return Scene.barge("l2 a50 g90").seats(0).rite(rite);
    }

    private static void whenIsTheFirstMinute() {
        Edge.tells("the first", auntToTheLeft("stk"), x -> x.when(), 0, -10);
        Edge.tells("the second", auntToTheLeft("stt").limit(10), x -> x.when(), 1, -15);
        Edge.tells("the fortieth", auntToTheLeft("s".repeat(39) + "t").limit(14), x -> x.when(), 39, -15);
        Edge.tells("without a RITE", Scene.empty().rain(1), x -> x.when(), 0, 1);
        Edge.tells("without a RITE, SITTING", Scene.barge("l2 a50").seats(0), x -> x.when(), 0, -10);
        Edge.tells("by the RAIN alone", auntToTheLeft("t").then(x -> x.rise(0)).rain(3), x -> x.when(), 0, 3);
    }

    private static void whenIsNone() {
        Edge.none("just LEVEL in each", auntToTheLeft("stk").limit(15), x -> x.when());
        Edge.none("in POSTURES that there are", auntToTheLeft("sks").limit(10), x -> x.when());
        Edge.none("STANDING alone", auntToTheLeft("tt").rain(15), x -> x.when());
        Edge.none("nobody, no RAIN", Scene.empty(), x -> x.when());
        Edge.none("those who are not seated aside", Scene.barge("l2 a50"), x -> x.when());
        Edge.none("asked() stays", Scene.full().limit(999), x -> x.when());
    }

    // 28 "In how many MINUTES it is LEVEL, of all, told by upper(), lower(): how many."

    private static void minutesOfAll() {
        Edge.shares("none", auntToTheLeft("stk").limit(9), x -> x.minutes(), 0, 0, 1);
        Edge.shares("all", auntToTheLeft("stk").limit(15), x -> x.minutes(), 3, 1, 1);
        Edge.shares("two of three", auntToTheLeft("stk").limit(14), x -> x.minutes(), 2, 2, 3);
        Edge.shares("two of four", auntToTheLeft("sttk").limit(10), x -> x.minutes(), 2, 1, 2);
        Edge.shares("39 of 40", auntToTheLeft("s".repeat(39) + "t").limit(10), x -> x.minutes(), 39, 39, 40);
        Edge.shares("40 of 40", auntToTheLeft("t".repeat(40)).limit(15), x -> x.minutes(), 40, 1, 1);
        Edge.shares("1 of 40", auntToTheLeft("t".repeat(39) + "k").limit(10), x -> x.minutes(), 1, 1, 40);
        Edge.tells("asked() stays", Scene.full(), x -> x.minutes(), 1, 12);
    }

    private static void minutesWithoutARite() {
        Edge.shares("LEVEL", Scene.empty(), x -> x.minutes(), 1, 1, 1);
        Edge.shares("not LEVEL", Scene.empty().rain(-1), x -> x.minutes(), 0, 0, 1);
    }

    // 29 "The greatest size of THE LIST in a MINUTE; the first such MINUTE by asked()."

    private static void worstIsTheFirstSuchMinute() {
        Edge.tells("of alike ones", auntToTheLeft("sks"), x -> x.worst(), 10, 0);
        Edge.tells("of two", auntToTheLeft("stskt"), x -> x.worst(), 15, 1);
        Edge.tells("the last", auntToTheLeft("s".repeat(39) + "t"), x -> x.worst(), 15, 39);
        Edge.tells("whatever LIMIT", auntToTheLeft("stk").limit(999), x -> x.worst(), 15, 1);
    }

    private static void worstBySize() {
        Edge.tells("to the right", auntToTheLeft("tsk").rain(20), x -> x.worst(), 10, 1);
        Scene bothSides = Scene.barge("l2 r3 a40 u11").seats(0, 1).rain(5);
        Edge.tells("to the left, then to the right alike", bothSides.rite("tk"), x -> x.worst(), 1, 0);
        Edge.tells("to the right, then to the left alike", bothSides.rite("kt"), x -> x.worst(), 1, 0);
        Edge.tells("0", auntToTheLeft("t").rain(15), x -> x.worst(), 0, 0);
    }

    private static void worstOfNobody() {
        Edge.tells("no BENCHES", Scene.empty(), x -> x.worst(), 0, 0);
        Edge.tells("the RAIN alone", Scene.empty().rain(-200).rite("kts"), x -> x.worst(), 200, 0);
    }

    // 30 "The least LIMIT (0 .. 999) by which it is LEVEL in each MINUTE. NONE: it would be above."

    /** THE LIST: 972 SITTING, STANDING, 756 KNEELING. */
    private static Scene sixCousins() {
        return Scene.barge("r9r9r9 k90k90k90k90k90k90").seats(0, 0, 1, 1, 2, 2);
    }

    private static void needIsWithinTheLimit() {
        Edge.answers("0", Scene.empty(), x -> x.need(), 0);
        Edge.answers("998", sixCousins().rain(26), x -> x.need(), 998);
        Edge.answers("999", sixCousins().rain(27), x -> x.need(), 999);
        Scene left = Scene.barge("l9l9l9 k90k90k90k90k90k90").seats(0, 0, 1, 1, 2, 2);
        Edge.answers("999 to the left", left.rain(-27), x -> x.need(), 999);
        Edge.none("1000 to the left", left.rain(-28), x -> x.need());
        Edge.tells("asked() stays", Scene.full(), x -> x.need(), 12, 12);
        Edge.answers("whatever LIMIT", Scene.full().limit(999), x -> x.need(), 12);
    }

    private static void needIsNone() {
        Edge.none("1000", sixCousins().rain(28), x -> x.need());
        Edge.none("the most that there is", Scene.barge("r9r9r9r9 k90k90k90k90k90k90k90")
                .seats(0, 0, 1, 1, 2, 2, 3).rain(200), x -> x.need());
        Edge.none("in one MINUTE of forty", sixCousins().rite("k".repeat(39) + "s").rain(28), x -> x.need());
    }

    private static void needIsInEachMinute() {
        Edge.answers("in the MINUTES that there are", sixCousins().rite("k").rain(200), x -> x.need(), 956);
        Edge.answers("the worst", auntToTheLeft("stk"), x -> x.need(), 15);
        Edge.shares("LEVEL by it", auntToTheLeft("stk").then(x -> x.limit(x.need())), x -> x.minutes(), 3, 1, 1);
    }

    private static void allStaysAsItIs() {
        Edge.leavesAll("list(1)", Scene.full(), x -> x.list(1));
        Edge.leavesAll("when()", Scene.full(), x -> x.when());
        Edge.leavesAll("minutes()", Scene.full(), x -> x.minutes());
        Edge.leavesAll("worst()", Scene.full(), x -> x.worst());
        Edge.leavesAll("need()", Scene.full(), x -> x.need());
    }
}
