/** Promises 22 to 24 and 26: rates of kinds and the trace, images. */
final class KindTest {
    private static final int BAD = InsultStatues.BAD, STATE = InsultStatues.STATE, NO = InsultStatues.NO;
    private static final String TOWN = "n7;t0 8 a;t4 3 b;t2 12 c;p0 5 2 ab;p2 4 1 ac;p3 6 2 c;";

    public static void main(String[] args) {
        rating();
        ratingBelowZero();
        badRates();
        tracing();
        keeping();
        keepingTwo();
        keepingAnew();
        nothingElseIsKept();
        Expect.end("KindTest");
    }

    private static void rating() {
        InsultStatues x = Expect.told(TOWN);
        int[][] want = {{8, 8, 8, 16, 8, 10}, {3, 7, 3, 14, 4, 4}, {12, 14, 12, 28, 14, 14}};
        due(x, want);
        x.comes(0);
        x.comes(2);
        x.pulls(1, 1);
        x.claims(1, 1);
        int[][] then = {{8, 8, 3, 16, 3, 10}, {3, 8, -2, 16, -1, 5}, {12, 14, 6, 28, 8, 14}};
        due(x, then);
    }

    private static void due(InsultStatues x, int[][] want) {
        for (int s = 0; s < want.length; s++) {
            for (int kind = 0; kind < want[s].length; kind++) {
                Expect.due("rate(" + kind + ", " + s + ")", want[s][kind], x.rate(kind, s));
            }
        }
    }

    private static void ratingBelowZero() {
        InsultStatues x = Expect.told("t0 1 a;p0 9 0 a;p0 9 0 a;p0 9 0 a;p0 9 0 a;p0 9 0 a;p0 9 0 a;");
        for (int p = 0; p < 6; p++) {
            x.comes(p);
        }
        Expect.due("rate(2, 0)", -53, x.rate(2, 0));
        Expect.due("rate(4, 0)", -53, x.rate(4, 0));
        Expect.due("rate(5, 0)", 7, x.rate(5, 0));
    }

    private static void badRates() {
        InsultStatues x = Expect.told(TOWN);
        Expect.due("rate(6, 0)", NO, x.rate(6, 0));
        Expect.due("rate(-1, 0)", NO, x.rate(-1, 0));
        Expect.due("rate(0, 3)", NO, x.rate(0, 3));
        Expect.due("rate(0, -1)", NO, x.rate(0, -1));
        Expect.due("a new object's rate(0, 0)", NO, new InsultStatues().rate(0, 0));
        Expect.due("BAD adds nothing", 0, x.trace());
    }

    private static void tracing() {
        InsultStatues x = Expect.told(TOWN);
        long[] added = {1, 11, 101, 1011, 10101, 100001};
        long sum = 0;
        for (int round = 0; round < 2; round++) {
            for (int kind = 0; kind < added.length; kind++) {
                x.rate(kind, round);
                sum += added[kind];
                Expect.due("trace() behind rate(" + kind + ")", sum, x.trace());
            }
        }
        Expect.due("trace() again", sum, x.trace());
    }

    private static void keeping() {
        InsultStatues x = Expect.told(TOWN);
        Expect.due("back(0) of none", STATE, x.back(0));
        Expect.due("keep(0)", 0, x.keep(0));
        x.comes(0);
        x.pulls(1, 1);
        x.claims(1, 1);
        Expect.due("keep(1)", 1, x.keep(1));
        x.comes(1);
        x.pulls(1, 0);
        x.goes(0);
        x.claims(2, 0);
        Expect.due("back(1)", 1, x.back(1));
        asKept(x);
        x.comes(2);
        Expect.due("back(0)", 0, x.back(0));
        Expect.due("COME", 0, x.now(0));
        Expect.due("YARD", 4, x.statue(1, 0));
        Expect.due("WRONGED", 1, x.statue(1, 3));
        Expect.due("believed", 0, x.one(1, 5));
        Expect.due("back(1) again", 1, x.back(1));
        asKept(x);
        Expect.due("keep(2)", BAD, x.keep(2));
        Expect.due("keep(-1)", BAD, x.keep(-1));
        Expect.due("back(2)", BAD, x.back(2));
        Expect.due("back(-1)", BAD, x.back(-1));
    }

    private static void asKept(InsultStatues x) {
        Expect.due("COME", 1, x.now(0));
        Expect.due("YARD", 5, x.statue(1, 0));
        Expect.due("WRONGED", 3, x.statue(1, 3));
        Expect.due("believed", 1, x.one(1, 5));
        Expect.due("not WRONGED", 3, x.statue(0, 3));
        Expect.due("nothing can be UNDONE", 0, x.now(3));
        Expect.due("undo()", STATE, x.undo());
    }

    private static void keepingTwo() {
        InsultStatues x = Expect.told(TOWN);
        x.comes(0);
        x.keep(1);
        Expect.due("back(0), when 1 alone was kept", STATE, x.back(0));
        Expect.due("refused back() leaves what may be UNDONE", 1, x.now(3));
        Expect.due("a bad back()", BAD, x.back(2));
        Expect.due("leaves it, too", 1, x.now(3));
        Expect.due("undo()", 0, x.undo());
    }

    private static void keepingAnew() {
        InsultStatues x = Expect.told(TOWN);
        x.keep(0);
        x.comes(0);
        x.comes(1);
        Expect.due("keep(0) anew", 2, x.keep(0));
        Expect.due("keep() leaves what may be UNDONE", 2, x.now(3));
        x.goes(0);
        Expect.due("back(0)", 2, x.back(0));
        Expect.due("an image stays behind back()", 1, x.goes(0));
        Expect.due("back(0) again", 2, x.back(0));
        Expect.due("COME", 3, x.now(0));
    }

    private static void nothingElseIsKept() {
        InsultStatues x = Expect.told(TOWN);
        x.keep(0);
        x.sees(0, 1);
        x.rate(0, 0);
        x.type('n');
        x.back(0);
        Expect.due("SEEN", 1, x.count(4));
        Expect.due("letters", 1, x.count(5));
        Expect.due("trace()", 1, x.trace());
    }

    private KindTest() {
    }
}
