/** Promises 13 to 17: gather, bare, scale, offends, odds. */
final class HowTest {
    private static final int BAD = InsultStatues.BAD, NONE = InsultStatues.NONE;
    private static final String TOWN = "n7;v2;t0 8 a;t1 3 b;t4 12 c;t6 1 f;p0 5 1 ab;p2 4 0 ac;p3 6 2 c;p5 3 3 bd;p6 2 1 e;";

    public static void main(String[] args) {
        gathering();
        gatheringTheLeast();
        baring();
        baringWithoutRoom();
        turningTheScale();
        turningTheScaleBySix();
        offending();
        oddsOfOne();
        oddsOfMany();
        nothingIsChanged();
        Expect.end("HowTest");
    }

    private static void gathering() {
        InsultStatues x = Expect.told(TOWN);
        int[] want = {0, 3, 1, 3, NONE};
        for (int set = 0; set < want.length; set++) {
            Expect.due("gather(" + set + ")", want[set], x.gather(set));
        }
        Expect.due("gather(16)", BAD, x.gather(16));
        Expect.due("gather(17)", BAD, x.gather(17));
        Expect.due("gather(-1)", BAD, x.gather(-1));
        Expect.due("gather of the least int", BAD, x.gather(Integer.MIN_VALUE));
        x.comes(4);
        x.claims(4, 3);
        Expect.due("gather(8) by a claim", 16, x.gather(8));
        Expect.due("gather(9) by a claim", 19, x.gather(9));
        x.claims(3, 2);
        Expect.due("gather(4) by a claim", 14, x.gather(4));
        Expect.due("gather(15)", 31, x.gather(15));
        InsultStatues none = new InsultStatues();
        Expect.due("gather(0) of none", 0, none.gather(0));
        Expect.due("gather(1) of none", BAD, none.gather(1));
        InsultStatues six = Expect.told("t0 1a;t1 1a;t2 1a;t3 1a;t4 1a;t5 1b;p0 1 0 a;");
        Expect.due("gather(31)", 1, six.gather(31));
        Expect.due("gather(63)", NONE, six.gather(63));
        Expect.due("gather(64)", BAD, six.gather(64));
    }

    private static void gatheringTheLeast() {
        InsultStatues x = Expect.told("t0 6 a;p0 2 0 a;p0 2 0 a;p0 2 0 a;p0 5 0 a;p0 1 0 a;p0 9 0 b;");
        Expect.due("two of many, the least", 9, x.gather(1));
        InsultStatues y = Expect.told("t0 9 a;p0 9 0 b;p0 4 0 a;p0 5 0 a;p0 9 0 a;p0 9 0 a;");
        Expect.due("one rather than two that are less", 8, y.gather(1));
    }

    private static void baring() {
        InsultStatues x = Expect.told(TOWN);
        x.comes(0);
        x.comes(1);
        x.comes(3);
        int[][] want = {{2, 1}, {1, 1}, {0, NONE}, {0, NONE}, {NONE, NONE}, {0, NONE}, {NONE, NONE}};
        for (int yard = 0; yard < want.length; yard++) {
            Expect.due("bare(" + yard + ", 0)", want[yard][0], x.bare(yard, 0));
            Expect.due("bare(" + yard + ", 1)", want[yard][1], x.bare(yard, 1));
        }
        Expect.due("bare(7, 0)", BAD, x.bare(7, 0));
        Expect.due("bare(-1, 0)", BAD, x.bare(-1, 0));
        Expect.due("bare(0, 2)", BAD, x.bare(0, 2));
        Expect.due("bare(0, -1)", BAD, x.bare(0, -1));
        x.goes(1);
        Expect.due("one in the row does not MOVE", NONE, x.bare(0, 0));
        Expect.due("only its own must MOVE", 1, x.bare(1, 0));
    }

    private static void baringWithoutRoom() {
        InsultStatues x = Expect.told("n4;t0 1 a;t1 1 a;t2 1 a;p0 1 0 a;");
        x.comes(0);
        Expect.due("three up", 3, x.bare(0, 0));
        Expect.due("two up", 2, x.bare(1, 0));
        Expect.due("one up", 1, x.bare(2, 0));
        Expect.due("side up", 1, x.bare(1, 1));
        InsultStatues y = Expect.told("n7;t1 1 a;t2 1 a;t3 1 a;t4 1 b;t5 1 a;p0 1 0 a;p0 1 0 b;");
        y.comes(0);
        Expect.due("down, though farther", 3, y.bare(3, 0));
        Expect.due("side down", 0, y.bare(3, 1));
        Expect.due("itself does not MOVE", NONE, y.bare(4, 0));
        Expect.due("side of none", NONE, y.bare(4, 1));
        y.comes(1);
        Expect.due("both alike", 3, y.bare(3, 0));
        Expect.due("both alike: down", 0, y.bare(3, 1));
        Expect.due("down is fewer", 2, y.bare(2, 0));
        Expect.due("side down", 0, y.bare(2, 1));
        Expect.due("up is fewer", 2, y.bare(4, 0));
        Expect.due("side up", 1, y.bare(4, 1));
        InsultStatues z = Expect.told("n2;t0 1 a;t1 1 a;p0 1 0 a;");
        z.comes(0);
        Expect.due("no empty YARD", NONE, z.bare(0, 0));
        Expect.due("no empty YARD", NONE, z.bare(1, 1));
    }

    private static void turningTheScale() {
        InsultStatues x = Expect.told("t0 6 a;t1 20 a;t2 3 a;p0 5 1 a;p0 3 0 a;p0 1 0 a;p0 9 1 b;");
        for (int p = 0; p < 4; p++) {
            x.comes(p);
        }
        due(x, 0, 4, 1, 1, 0);
        due(x, 1, 0, 0, 0, 0);
        due(x, 2, 3, 3, 0, 0);
        x.claims(3, 0);
        due(x, 0, 6, 2, 2, 14);
        x.goes(1);
        due(x, 0, 1, 0, 1, 4);
        Expect.due("scale(4, 0)", BAD, x.scale(4, 0));
        Expect.due("scale(-1, 0)", BAD, x.scale(-1, 0));
        Expect.due("scale(0, 3)", BAD, x.scale(0, 3));
        Expect.due("scale(0, -1)", BAD, x.scale(0, -1));
    }

    private static void due(InsultStatues x, int s, int... want) {
        for (int p = 0; p < want.length; p++) {
            Expect.due("scale(" + p + ", " + s + ")", want[p], x.scale(p, s));
        }
    }

    private static void turningTheScaleBySix() {
        InsultStatues x = Expect.told("t0 1 a;t1 12 a;p0 2 0 a;p0 2 0 a;p0 2 0 a;p0 2 0 a;p0 2 0 a;p0 2 0 a;");
        for (int p = 0; p < 6; p++) {
            x.comes(p);
        }
        due(x, 0, 120, 120, 120, 120, 120, 120);
        due(x, 1, 120, 120, 120, 120, 120, 120);
        x.goes(5);
        due(x, 0, 24, 24, 24, 24, 24, 0);
        InsultStatues alone = Expect.told("t0 1 a;p0 2 0 a;");
        due(alone, 0, 0);
        alone.comes(0);
        due(alone, 0, 1);
    }

    private static void offending() {
        InsultStatues x = Expect.told("n10;v3;t0 1 a;t5 1 b;t6 1 a;p0 1 1 a;p3 1 0 a;p4 1 0 ab;p9 1 0 ab;");
        int[] want = {2, 3, 3, 3, 2, 2, 3, 2, 1, 1};
        for (int yard = 0; yard < want.length; yard++) {
            Expect.due("offends(0, " + yard + ")", want[yard], x.offends(0, yard));
        }
        Expect.due("PLACE of 0", 8, x.statue(0, 6));
        Expect.due("PLACE of 2", 8, x.statue(2, 6));
        Expect.due("1 OFFENDS nobody where 0 stands", 0, x.offends(1, 0));
        Expect.due("but PLACE of 1 is empty", 1, x.statue(1, 6));
        x.claims(0, 1);
        Expect.due("a claim counts", 1, x.offends(1, 0));
        Expect.due("offends(0, 10)", BAD, x.offends(0, 10));
        Expect.due("offends(0, -1)", BAD, x.offends(0, -1));
        Expect.due("offends(3, 0)", BAD, x.offends(3, 0));
        Expect.due("offends(-1, 0)", BAD, x.offends(-1, 0));
        InsultStatues hated = Expect.told("n2;v3;t1 1 a;p0 1 0a;p0 1 0a;p0 1 0a;p1 1 0a;p1 1 0a;p1 1 0a;");
        Expect.due("six are offended everywhere", 6, hated.statue(0, 5));
        Expect.due("PLACE, the lowest", 0, hated.statue(0, 6));
        InsultStatues near = Expect.told("v0;t0 1 a;p1 1 0 a;p1 1 0 a;p0 1 0 a;");
        Expect.due("SIGHT 0", 2, near.offends(0, 1));
        Expect.due("SIGHT 0", 1, near.offends(0, 0));
        Expect.due("SIGHT 0", 0, near.offends(0, 2));
    }

    private static void oddsOfOne() {
        InsultStatues x = Expect.told("t0 4 a;t1 1 f;p0 5 0 a;p0 4 0 b;");
        fraction(x, 0, 3, 0, 1);
        x.comes(0);
        x.comes(1);
        int[][] want = {{1, 1}, {9, 10}, {4, 5}, {7, 10}, {3, 5}, {1, 2}, {2, 5}, {3, 10}, {1, 5}, {1, 10}, {0, 1}};
        for (int away = 0; away <= 10; away++) {
            fraction(x, 0, away, want[away][0], want[away][1]);
            fraction(x, 1, away, 0, 1);
        }
        Expect.due("odds(2, 0, 0)", BAD, x.odds(2, 0, 0));
        Expect.due("odds(-1, 0, 0)", BAD, x.odds(-1, 0, 0));
        Expect.due("odds(0, -1, 0)", BAD, x.odds(0, -1, 0));
        Expect.due("odds(0, 11, 0)", BAD, x.odds(0, 11, 0));
        Expect.due("odds(0, 0, -1)", BAD, x.odds(0, 0, -1));
        Expect.due("odds(0, 0, 2)", BAD, x.odds(0, 0, 2));
    }

    private static void oddsOfMany() {
        InsultStatues x = Expect.told("t0 6 a;t1 6 b;p0 1 0 a;p0 1 0 a;p0 1 0 a;p0 1 0 a;p0 1 0 a;p0 1 1 a;");
        for (int p = 0; p < 6; p++) {
            x.comes(p);
        }
        fraction(x, 0, 1, 531441, 1000000);
        fraction(x, 0, 5, 1, 64);
        fraction(x, 0, 9, 1, 1000000);
        fraction(x, 0, 0, 1, 1);
        fraction(x, 0, 10, 0, 1);
        InsultStatues y = Expect.told("t0 3 a;p0 2 0 a;p0 2 0 a;p0 3 0 ab;p0 9 1 b;");
        for (int p = 0; p < 4; p++) {
            y.comes(p);
        }
        fraction(y, 0, 3, 847, 1000);
        fraction(y, 0, 4, 93, 125);
        y.claims(3, 0);
        fraction(y, 0, 5, 13, 16);
        y.goes(0);
        fraction(y, 0, 5, 3, 4);
    }

    private static void fraction(InsultStatues x, int s, int away, int upper, int lower) {
        Expect.due("odds(" + s + ", " + away + ", 0)", upper, x.odds(s, away, 0));
        Expect.due("odds(" + s + ", " + away + ", 1)", lower, x.odds(s, away, 1));
    }

    private static void nothingIsChanged() {
        InsultStatues x = Expect.told(TOWN);
        x.comes(0);
        x.comes(1);
        x.gather(3);
        x.bare(0, 0);
        x.scale(0, 0);
        x.offends(0, 3);
        x.odds(0, 5, 0);
        Expect.due("COME", 3, x.now(0));
        Expect.due("YARDS", 44, x.now(2));
        Expect.due("UNDONE", 2, x.now(3));
    }

    private HowTest() {
    }
}
