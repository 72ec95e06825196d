/** Promises 43 and 44: each boundary that the document names for rain by odds and storms by lots. */
public final class EdgesOfRainTest {
    private static final int MOST = Edge.MOST, LEAST = Edge.LEAST;

    public static void main(String[] args) {
        oddsOfNoRain();
        oddsOfAllRain();
        oddsToBothSides();
        oddsInAPosture();
        oddsWhateverRainThereIs();
        oddsIsRefused();
        stormOfOneMinute();
        stormOfFortyMinutes();
        stormOfTheOutermostSeeds();
        stormFromTheRainAsTold();
        stormWithinTwoHundred();
        stormIsNotLevel();
        stormInEachPosture();
        stormIsRefused();
        allStaysAsItIs();
        Due.end();
    }

    // 43 "Odds that it is LEVEL in a POSTURE, if the RAIN is any of -k .. k (k 0 .. 200), each as likely, told by
    // upper(), lower(): how many are. BAD."

    private static void oddsOfNoRain() {
        Edge.shares("LEVEL", Scene.empty(), x -> x.odds(0, 0), 1, 1, 1);
        Edge.shares("not LEVEL", Scene.barge("r1 g10").seats(0), x -> x.odds(0, 0), 0, 0, 1);
        Edge.shares("just LEVEL", Scene.barge("r1 g10").seats(0).limit(1), x -> x.odds(0, 0), 1, 1, 1);
    }

    private static void oddsOfAllRain() {
        Edge.shares("one of 401", Scene.empty(), x -> x.odds(0, 200), 1, 1, 401);
        Edge.shares("399 of 401", Scene.empty().limit(199), x -> x.odds(0, 200), 399, 399, 401);
        Edge.shares("401 of 401", Scene.empty().limit(200), x -> x.odds(0, 200), 401, 1, 1);
        Edge.shares("one of three", Scene.empty(), x -> x.odds(0, 1), 1, 1, 3);
        Edge.shares("three of three", Scene.empty().limit(1), x -> x.odds(0, 1), 3, 1, 1);
    }

    private static void oddsToBothSides() {
        Scene right = Scene.barge("r2 g50").seats(0);
        Edge.shares("not by -9", right, x -> x.odds(0, 9), 0, 0, 1);
        Edge.shares("by -10", right, x -> x.odds(0, 10), 1, 1, 21);
        Scene left = Scene.barge("l2 g50").seats(0);
        Edge.shares("not by 9", left, x -> x.odds(0, 9), 0, 0, 1);
        Edge.shares("by 10", left, x -> x.odds(0, 10), 1, 1, 21);
        Edge.shares("by 7 to 10", left.limit(3), x -> x.odds(0, 10), 4, 4, 21);
        Edge.shares("by 7 to 13", left.limit(3), x -> x.odds(0, 17), 7, 1, 5);
    }

    private static void oddsInAPosture() {
        Scene aunt = Scene.barge("r2 a50 u50").seats(0);
        Edge.answers("SITTING", aunt.limit(10), x -> x.odds(0, 0), 1);
        Edge.answers("STANDING", aunt.limit(10), x -> x.odds(1, 0), 0);
        Edge.answers("KNEELING", aunt.limit(10), x -> x.odds(2, 0), 1);
        Edge.answers("whatever RITE", aunt.limit(10).rite("t"), x -> x.odds(0, 0), 1);
        Scene uncle = Scene.barge("r2 u50").seats(0);
        Edge.answers("an UNCLE SITTING", uncle.limit(10), x -> x.odds(0, 0), 0);
        Edge.answers("an UNCLE KNEELING", uncle.limit(10), x -> x.odds(2, 0), 1);
    }

    private static void oddsWhateverRainThereIs() {
        Edge.shares("RAIN 200", Scene.empty().rain(200), x -> x.odds(0, 1), 1, 1, 3);
        Edge.tells("it stays", Scene.empty().rain(200).then(x -> x.odds(0, 1)), x -> x.rain(0), 1, 200);
        Edge.tells("asked() stays", Scene.full(), x -> x.odds(0, 10), 3, 12);
    }

    private static void oddsIsRefused() {
        for (int posture : new int[] {LEAST, -1, 3, MOST}) {
            Edge.bad("odds(" + posture + ", 0)", Scene.full(), x -> x.odds(posture, 0));
        }
        for (int k : new int[] {LEAST, -1, 201, MOST}) {
            Edge.bad("odds(0, " + k + ")", Scene.full(), x -> x.odds(0, k));
        }
    }

    // 44 "Storms by LOTS: a number comes from the one ahead by 48271 times it modulo 2147483647, the first from a seed (1
    // .. 2147483646): in each MINUTE of the RITE one: the RAIN is what it was (as told at first) and it modulo 7 less 3,
    // but within -200 .. 200: in how many MINUTES it is not LEVEL; the RAIN at last by asked() (it stays as told). BAD."

    // By LOTS the RAIN changes: seed 1 by 3, -3, 2, 1; seed 14 by -3, 3, 3; seed 22 by 3, 3, 3; seed 175 by -3, -3, -3;
    // seeds 1 to 8 first by 3, 2, 1, 0, -1, -2, -3, 3.

    private static void stormOfOneMinute() {
        int[] first = {3, 2, 1, 0, -1, -2, -3, 3};
        for (int i = 0; i < first.length; i++) {
            int seed = i + 1;
            Edge.tells("storm(" + seed + ")", Scene.empty(), x -> x.storm(seed), first[i] == 0 ? 0 : 1, first[i]);
        }
    }

    private static void stormOfFortyMinutes() {
        Scene forty = Scene.empty().rite("s".repeat(40)).limit(999);
        Edge.tells("seed 1", forty, x -> x.storm(1), 0, -7);
        Edge.tells("seed 2147483646", forty, x -> x.storm(2147483646), 0, -4);
    }

    private static void stormOfTheOutermostSeeds() {
        Edge.tells("storm(1)", Scene.empty().limit(3), x -> x.storm(1), 0, 3);
        Edge.tells("storm(2147483646)", Scene.empty().limit(3), x -> x.storm(2147483646), 0, -1);
        Edge.tells("then one MINUTE more", Scene.empty().limit(3).rite("ss"), x -> x.storm(2147483646), 0, -3);
    }

    private static void stormFromTheRainAsTold() {
        Scene scene = Scene.empty().limit(999).rain(-50).rite("stk");
        Edge.tells("it goes on from the RAIN", scene, x -> x.storm(1), 0, -48);
        Edge.tells("it stays as told", scene.then(x -> x.storm(1)), x -> x.rain(0), 1, -50);
        Edge.tells("another storm from the RAIN", scene.then(x -> x.storm(1)), x -> x.storm(1), 0, -48);
    }

    private static void stormWithinTwoHundred() {
        Scene scene = Scene.empty().limit(999);
        Edge.tells("no more than 200", scene.rain(200), x -> x.storm(1), 0, 200);
        Edge.tells("just 200", scene.rain(197), x -> x.storm(1), 0, 200);
        Edge.tells("199", scene.rain(196), x -> x.storm(1), 0, 199);
        Edge.tells("three times", scene.rain(199).rite("sss"), x -> x.storm(22), 0, 200);
        Edge.tells("from 200 on", scene.rain(200).rite("ss"), x -> x.storm(1), 0, 197);
        Edge.tells("no less than -200", scene.rain(-200), x -> x.storm(7), 0, -200);
        Edge.tells("just -200", scene.rain(-197), x -> x.storm(7), 0, -200);
        Edge.tells("-199", scene.rain(-196), x -> x.storm(7), 0, -199);
        Edge.tells("three times -3", scene.rain(-199).rite("sss"), x -> x.storm(175), 0, -200);
        Edge.tells("from -200 on", scene.rain(-200).rite("sss"), x -> x.storm(14), 0, -194);
    }

    private static void stormIsNotLevel() {
        Scene four = Scene.empty().rite("ssss");
        Edge.tells("RAIN 3, 0, 2, 3 by LIMIT 0", four, x -> x.storm(1), 3, 3);
        Edge.tells("by LIMIT 1", four.limit(1), x -> x.storm(1), 3, 3);
        Edge.tells("by LIMIT 2", four.limit(2), x -> x.storm(1), 2, 3);
        Edge.tells("by LIMIT 3", four.limit(3), x -> x.storm(1), 0, 3);
        Edge.tells("to the left", four.limit(3).rain(-6), x -> x.storm(1), 2, -3);
    }

    /** THE LIST without RAIN: 10 SITTING, 15 STANDING, 10 KNEELING. */
    private static void stormInEachPosture() {
        Scene aunt = Scene.barge("r2 a50 g90").seats(0).limit(13);
        Edge.tells("SITTING: 13", aunt, x -> x.storm(1), 0, 3);
        Edge.tells("STANDING: 18", aunt.rite("t"), x -> x.storm(1), 1, 3);
        Edge.tells("13, 15, 12", aunt.rite("stk"), x -> x.storm(1), 1, 2);
        Edge.tells("18, 10, 17", aunt.rite("tkt"), x -> x.storm(1), 2, 2);
    }

    private static void stormIsRefused() {
        for (int seed : new int[] {LEAST, -1, 0, MOST}) {
            Edge.bad("storm(" + seed + ")", Scene.full(), x -> x.storm(seed));
        }
    }

    private static void allStaysAsItIs() {
        Edge.leavesAll("odds(1, 5)", Scene.full(), x -> x.odds(1, 5));
        Edge.leavesAll("storm(5)", Scene.full(), x -> x.storm(5));
    }
}
