/** Promises 18 to 21: what was seen of an unknown one, who it can be, what to show him next. */
final class SeenTest {
    private static final int BAD = InsultStatues.BAD, FULL = InsultStatues.FULL, NONE = InsultStatues.NONE;
    private static final String TOWN = "t0 9 f;t1 9 a;t2 9 b;t3 9 c;p0 1 2 a;p0 1 0 ab;p0 1 0 ac;p0 1 0 abc;p0 1 0 d;";

    public static void main(String[] args) {
        seeing();
        whoItIs();
        showing();
        showingWithoutUse();
        claimsCount();
        seenStays();
        Expect.end("SeenTest");
    }

    private static void seeing() {
        InsultStatues x = Expect.told(TOWN);
        Expect.due("forget() of nothing", 0, x.forget());
        for (int i = 1; i <= 6; i++) {
            Expect.due("sees(1, 1)", i, x.sees(1, 1));
            Expect.due("SEEN", i, x.count(4));
        }
        Expect.due("a seventh", FULL, x.sees(1, 1));
        Expect.due("SEEN", 6, x.count(4));
        Expect.due("a bad seventh", BAD, x.sees(4, 1));
        Expect.due("sees(-1, 1)", BAD, x.sees(-1, 1));
        Expect.due("sees(0, 2)", BAD, x.sees(0, 2));
        Expect.due("sees(0, -1)", BAD, x.sees(0, -1));
        Expect.due("forget()", 6, x.forget());
        Expect.due("SEEN then", 0, x.count(4));
        Expect.due("who() then", 31, x.who());
        Expect.due("sees(0, 0) then", 1, x.sees(0, 0));
    }

    private static void whoItIs() {
        InsultStatues x = Expect.told(TOWN);
        Expect.due("nothing SEEN", 31, x.who());
        x.sees(1, 1);
        Expect.due("WRONGED by 1", 15, x.who());
        x.sees(2, 0);
        Expect.due("not by 2", 5, x.who());
        x.sees(3, 1);
        Expect.due("by 3", 4, x.who());
        x.sees(3, 0);
        Expect.due("and not by 3", 0, x.who());
        Expect.due("who() of none", 0, new InsultStatues().who());
    }

    private static void showing() {
        InsultStatues x = Expect.told(TOWN);
        Expect.due("show(): 2 of 5, the lowest", 2, x.show());
        x.sees(1, 1);
        Expect.due("show(): 2 of 4", 2, x.show());
        x.sees(2, 1);
        Expect.due("show(): 1 of 2", 3, x.show());
        x.sees(3, 0);
        Expect.due("WHO", 2, x.who());
        Expect.due("show() of one", NONE, x.show());
        x.sees(3, 1);
        Expect.due("show() of none", NONE, x.show());
    }

    private static void showingWithoutUse() {
        InsultStatues same = Expect.told("t0 9 f;t1 9 a;p0 1 0 a;p0 1 0 a;");
        Expect.due("none tells them apart: the lowest", 0, same.show());
        InsultStatues bare = Expect.told("p0 1 0 a;p0 1 0 b;");
        Expect.due("no STATUES", NONE, bare.show());
        Expect.due("no STATUES: WHO", 3, bare.who());
        Expect.due("sees() of no STATUE", BAD, bare.sees(0, 0));
        InsultStatues six = Expect.told("t0 9 a;t1 9 b;p0 1 0 a;p0 1 0 a;p0 1 0 a;p0 1 0 a;p0 1 0 ab;p0 1 0 b;");
        Expect.due("2 of 6 rather than 5 of 6", 1, six.show());
        InsultStatues one = Expect.told("t0 9 a;p0 1 0 a;");
        Expect.due("one of PEOPLE", NONE, one.show());
    }

    private static void claimsCount() {
        InsultStatues x = Expect.told(TOWN);
        x.sees(2, 1);
        Expect.due("WHO", 10, x.who());
        x.claims(0, 2);
        Expect.due("WHO, as things are NOW", 11, x.who());
        x.undo();
        Expect.due("WHO, undone", 10, x.who());
    }

    private static void seenStays() {
        InsultStatues x = Expect.told(TOWN);
        x.keep(0);
        x.sees(1, 0);
        x.comes(0);
        x.undo();
        Expect.due("undo() leaves SEEN", 1, x.count(4));
        x.back(0);
        Expect.due("back() leaves SEEN", 1, x.count(4));
        Expect.due("WHO", 16, x.who());
    }

    private SeenTest() {
    }
}
