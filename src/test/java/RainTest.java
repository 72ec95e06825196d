/** Promises 43 and 44: rain by odds, storms by lots. */
public final class RainTest {
    public static void main(String[] args) {
        odds();
        storm();
        stormWithin();
        Due.end();
    }

    private static void odds() {
        HeavierSide x = Due.barge("r2 a50");
        Due.seats(x, 0);
        x.rain(-10);
        Due.is("odds(0, 9) whatever RAIN", x.odds(0, 9), 0);
        Due.fraction("odds 0", x, 0, 1);
        Due.is("odds(0, 10)", x.odds(0, 10), 1);
        Due.fraction("odds", x, 1, 21);
        x.limit(7);
        Due.is("odds(0, 200)", x.odds(0, 200), 15);
        Due.fraction("odds", x, 15, 401);
        Due.is("odds(1, 10)", x.odds(1, 10), 3);
        Due.fraction("odds in lowest terms", x, 1, 7);
        x.limit(10);
        Due.is("odds(0, 0)", x.odds(0, 0), 1);
        Due.fraction("odds", x, 1, 1);
        Due.is("odds(3, 0)", x.odds(3, 0), HeavierSide.BAD);
        Due.is("odds(-1, 0)", x.odds(-1, 0), HeavierSide.BAD);
        Due.is("odds(0, 201)", x.odds(0, 201), HeavierSide.BAD);
        Due.is("odds(0, -1)", x.odds(0, -1), HeavierSide.BAD);
        Due.tells("the RAIN stays", x, x.rain(0), 1, -10);
    }

    /** The LOTS of seed 1: 48271, 182605794, 1291394886, 1914720637; modulo 7: 6, 0, 5, 4. */
    private static void storm() {
        HeavierSide x = Due.barge("r2 a50");
        Due.seats(x, 0);
        x.limit(13);
        Due.tells("storm(1) of one MINUTE", x, x.storm(1), 0, 3);
        Due.rite(x, "sskt");
        Due.tells("storm(1)", x, x.storm(1), 1, 3);
        x.rain(-5);
        Due.tells("storm(1) from the RAIN on", x, x.storm(1), 0, -2);
        Due.tells("the RAIN stays as told", x, x.rain(0), 1, -5);
        Due.is("storm(0)", x.storm(0), HeavierSide.BAD);
        Due.is("storm(-1)", x.storm(-1), HeavierSide.BAD);
        Due.is("storm(2147483647)", x.storm(2147483647), HeavierSide.BAD);
        Due.is("refused: asked() stays", x.asked(), -5);
        Due.tells("storm(2147483646)", x, x.storm(2147483646), 0, -2);
    }

    private static void stormWithin() {
        HeavierSide x = new HeavierSide();
        x.rain(199);
        Due.rite(x, "s");
        Due.tells("storm(1) no more than 200", x, x.storm(1), 1, 200);
        Due.rite(x, "sk");
        Due.tells("storm(1) goes on from 200", x, x.storm(1), 2, 197);
        x.rain(-200);
        Due.rite(x, "s");
        Due.tells("storm(7) no less than -200", x, x.storm(7), 1, -200);
    }
}
