/** Promises 5 to 12: what is asked of statues, people and now; coming, going, claiming, pulling, undoing. */
final class DeedTest {
    private static final int BAD = InsultStatues.BAD, STATE = InsultStatues.STATE, FULL = InsultStatues.FULL;
    private static final String TOWN = "n7;v2;t0 8 a;t1 3 b;t4 12 c;t6 1 f;p0 5 1 ab;p2 4 0 ac;p3 6 2 c;p5 3 3 bd;p6 2 1 e;";

    public static void main(String[] args) {
        statues();
        people();
        now();
        comingAndGoing();
        claiming();
        pulling();
        scarcePull();
        undoing();
        undoingEveryDeed();
        peopleOfAnOldTown();
        tenAreKnown();
        refusedIsNotKnown();
        Expect.end("DeedTest");
    }

    private static void statues() {
        InsultStatues x = Expect.told(TOWN);
        int[][] want = {{0, 8, 0, 3, 0, 2, 5}, {1, 3, 1, 9, 0, 1, 1}, {4, 12, 2, 6, 0, 2, 5}, {6, 1, 5, 0, 0, 0, 2}};
        for (int s = 0; s < want.length; s++) {
            for (int what = 0; what < want[s].length; what++) {
                Expect.due("statue(" + s + ", " + what + ")", want[s][what], x.statue(s, what));
            }
            Expect.due("statue(" + s + ", 7)", BAD, x.statue(s, 7));
            Expect.due("statue(" + s + ", -1)", BAD, x.statue(s, -1));
        }
        Expect.due("statue(4, 0)", BAD, x.statue(4, 0));
        Expect.due("statue(-1, 0)", BAD, x.statue(-1, 0));
        x.comes(1);
        x.comes(2);
        x.comes(4);
        Expect.due("PULL at 0", 4, x.statue(0, 4));
        Expect.due("PULL at 1", 0, x.statue(1, 4));
        Expect.due("PULL at 2", 10, x.statue(2, 4));
        InsultStatues full = Expect.told("n2;v0;t0 1 a;t1 1 a;p0 1 0 a;");
        Expect.due("PLACE when its own is the only one", 0, full.statue(0, 6));
        Expect.due("PLACE when its own is the only one", 1, full.statue(1, 6));
    }

    private static void people() {
        InsultStatues x = Expect.told(TOWN);
        int[][] want = {{0, 5, 1, 3, 0, 0}, {2, 4, 0, 5, 0, 0}, {3, 6, 2, 4, 0, 0}, {5, 3, 3, 10, 0, 0}, {6, 2, 1, 16, 0, 0}};
        for (int p = 0; p < want.length; p++) {
            for (int what = 0; what < want[p].length; what++) {
                Expect.due("one(" + p + ", " + what + ")", want[p][what], x.one(p, what));
            }
            Expect.due("one(" + p + ", 6)", BAD, x.one(p, 6));
            Expect.due("one(" + p + ", -1)", BAD, x.one(p, -1));
        }
        Expect.due("one(5, 0)", BAD, x.one(5, 0));
        Expect.due("one(-1, 0)", BAD, x.one(-1, 0));
    }

    private static void now() {
        InsultStatues x = Expect.told(TOWN);
        Expect.due("now(0)", 0, x.now(0));
        Expect.due("now(1)", 0, x.now(1));
        Expect.due("now(2)", 44, x.now(2));
        Expect.due("now(3)", 0, x.now(3));
        x.comes(0);
        x.comes(3);
        Expect.due("now(0)", 9, x.now(0));
        Expect.due("now(1)", 2, x.now(1));
        Expect.due("now(3)", 2, x.now(3));
        x.pulls(1, 1);
        x.comes(1);
        Expect.due("several MOVE", 3, x.now(1));
        x.undo();
        Expect.due("now(2)", 42, x.now(2));
        Expect.due("now(3)", 3, x.now(3));
        Expect.due("now(4)", BAD, x.now(4));
        Expect.due("now(-1)", BAD, x.now(-1));
    }

    private static void comingAndGoing() {
        InsultStatues x = Expect.told(TOWN);
        Expect.due("goes(0)", STATE, x.goes(0));
        Expect.due("comes(4)", 1, x.comes(4));
        Expect.due("comes(4)", STATE, x.comes(4));
        Expect.due("comes(0)", 2, x.comes(0));
        Expect.due("one(4, 4)", 1, x.one(4, 4));
        Expect.due("one(1, 4)", 0, x.one(1, 4));
        Expect.due("goes(1)", STATE, x.goes(1));
        Expect.due("goes(4)", 1, x.goes(4));
        Expect.due("one(4, 4)", 0, x.one(4, 4));
        Expect.due("goes(4)", STATE, x.goes(4));
        Expect.due("goes(0)", 0, x.goes(0));
        Expect.due("now(0)", 0, x.now(0));
        Expect.due("comes(4)", 1, x.comes(4));
        Expect.due("comes(5)", BAD, x.comes(5));
        Expect.due("comes(-1)", BAD, x.comes(-1));
        Expect.due("goes(5)", BAD, x.goes(5));
        Expect.due("goes(-1)", BAD, x.goes(-1));
    }

    private static void claiming() {
        InsultStatues x = Expect.told(TOWN);
        x.comes(2);
        Expect.due("claims(2, 0)", 6, x.claims(2, 0));
        Expect.due("claims(2, 0) again", STATE, x.claims(2, 0));
        Expect.due("claims(2, 2), whose INSULT wrongs him", STATE, x.claims(2, 2));
        Expect.due("WRONGED by 0", 7, x.statue(0, 3));
        Expect.due("believed", 1, x.one(2, 5));
        Expect.due("claims(3, 0), who has not COME", 6, x.claims(3, 0));
        Expect.due("claims(3, 2)", 6, x.claims(3, 2));
        Expect.due("claims(3, 3)", 0, x.claims(3, 3));
        Expect.due("believed", 3, x.one(3, 5));
        Expect.due("claims(1, 1) without CREDIT", FULL, x.claims(1, 1));
        Expect.due("claims(1, 0), STATE ahead of FULL", STATE, x.claims(1, 0));
        Expect.due("claims(0, 2)", 6, x.claims(0, 2));
        Expect.due("claims(0, 3) beyond CREDIT", FULL, x.claims(0, 3));
        Expect.due("not believed", 1, x.one(0, 5));
        Expect.due("not WRONGED", 8, x.statue(3, 3));
        Expect.due("claims(2, 1)", 6, x.claims(2, 1));
        Expect.due("claims(2, 3)", FULL, x.claims(2, 3));
        Expect.due("claims(5, 0)", BAD, x.claims(5, 0));
        Expect.due("claims(0, 4)", BAD, x.claims(0, 4));
        Expect.due("claims(-1, 0)", BAD, x.claims(-1, 0));
        Expect.due("claims(0, -1)", BAD, x.claims(0, -1));
        Expect.due("OFFENDS counts claims", 3, x.statue(0, 5) + x.statue(3, 5));
        Expect.due("INSULTS stay", 4, x.one(2, 3));
    }

    private static void pulling() {
        InsultStatues x = Expect.told(TOWN);
        Expect.due("pulls(1, 1) by nobody", STATE, x.pulls(1, 1));
        x.comes(0);
        Expect.due("pulls(1, 0) where one stands", STATE, x.pulls(1, 0));
        Expect.due("pulls(1, 1)", 2, x.pulls(1, 1));
        Expect.due("pulls(1, 1)", 3, x.pulls(1, 1));
        Expect.due("pulls(1, 1) where one stands", STATE, x.pulls(1, 1));
        Expect.due("YARD then", 3, x.statue(1, 0));
        Expect.due("pulls(1, 0)", 2, x.pulls(1, 0));
        Expect.due("pulls(0, 1), too heavy", STATE, x.pulls(0, 1));
        x.comes(1);
        Expect.due("pulls(0, 0) where no YARD is", STATE, x.pulls(0, 0));
        Expect.due("pulls(0, 1)", 1, x.pulls(0, 1));
        Expect.due("pulls(0, 0)", 0, x.pulls(0, 0));
        x.claims(4, 3);
        x.comes(4);
        Expect.due("pulls(3, 1) where no YARD is", STATE, x.pulls(3, 1));
        Expect.due("pulls(3, 0)", 5, x.pulls(3, 0));
        Expect.due("pulls(3, 0) where one stands", STATE, x.pulls(3, 0));
        Expect.due("pulls(3, 1)", 6, x.pulls(3, 1));
        Expect.due("pulls(0, 2)", BAD, x.pulls(0, 2));
        Expect.due("pulls(0, -1)", BAD, x.pulls(0, -1));
        Expect.due("pulls(4, 0)", BAD, x.pulls(4, 0));
        Expect.due("pulls(-1, 0)", BAD, x.pulls(-1, 0));
    }

    private static void scarcePull() {
        InsultStatues x = Expect.told("t0 9 a;t2 10 a;p0 4 0 a;p0 5 0 a;p0 9 0 b;");
        x.comes(0);
        x.comes(1);
        x.comes(2);
        Expect.due("PULL that is WEIGHT", 1, x.pulls(0, 1));
        Expect.due("PULL that is WEIGHT less 1", STATE, x.pulls(1, 1));
        Expect.due("now(1)", 1, x.now(1));
    }

    private static void undoing() {
        InsultStatues x = Expect.told(TOWN);
        Expect.due("undo() of nothing", STATE, x.undo());
        x.comes(2);
        x.comes(3);
        x.goes(2);
        x.claims(3, 0);
        Expect.due("now(3)", 4, x.now(3));
        Expect.due("undo() of claims", 3, x.undo());
        Expect.due("WRONGED", 3, x.statue(0, 3));
        Expect.due("believed", 0, x.one(3, 5));
        Expect.due("undo() of goes", 2, x.undo());
        Expect.due("now(0)", 12, x.now(0));
        Expect.due("undo() of comes", 1, x.undo());
        Expect.due("now(0)", 4, x.now(0));
        Expect.due("undo() of comes", 0, x.undo());
        Expect.due("now(0)", 0, x.now(0));
        Expect.due("undo() of nothing", STATE, x.undo());
        Expect.due("comes(3)", 1, x.comes(3));
        Expect.due("now(3)", 1, x.now(3));
    }

    private static void undoingEveryDeed() {
        InsultStatues x = Expect.told(TOWN);
        x.comes(0);
        x.pulls(1, 1);
        x.pulls(1, 1);
        x.pulls(1, 0);
        Expect.due("undo() of pulls down", 3, x.undo());
        Expect.due("YARD", 3, x.statue(1, 0));
        Expect.due("undo() of pulls up", 2, x.undo());
        Expect.due("YARD", 2, x.statue(1, 0));
        Expect.due("undo() of pulls up", 1, x.undo());
        Expect.due("YARD", 1, x.statue(1, 0));
        Expect.due("claims(3, 0)", 5, x.claims(3, 0));
        Expect.due("claims(3, 2)", 0, x.claims(3, 2));
        Expect.due("undo()", 2, x.undo());
        Expect.due("the earlier claim stays", 11, x.statue(0, 3));
        Expect.due("the later claim went", 6, x.statue(2, 3));
        Expect.due("believed", 1, x.one(3, 5));
        Expect.due("claims(3, 2) anew", 0, x.claims(3, 2));
    }

    /** Fewer people than before: those who were told earlier are no more. */
    private static void peopleOfAnOldTown() {
        InsultStatues x = Expect.told("t0 9 a;p0 9 3 a;p0 9 3 a;p0 9 3 a;");
        for (int i = 0; i < 2; i++) {
            Expect.type(x, "t0 9 a;p0 9 3 b;");
            x.town();
            Expect.due("WRONGED", 0, x.statue(0, 3));
            Expect.due("OFFENDS", 0, x.statue(0, 5));
            Expect.due("GATHER", InsultStatues.NONE, x.gather(1));
            Expect.due("WHO", 1, x.who());
            Expect.due("comes(1)", BAD, x.comes(1));
        }
    }

    private static void tenAreKnown() {
        InsultStatues x = Expect.told(TOWN);
        x.comes(0);
        for (int i = 0; i < 4; i++) {
            Expect.due("pulls up", 2, x.pulls(1, 1));
            Expect.due("pulls down", 1, x.pulls(1, 0));
        }
        x.comes(1);
        Expect.due("ten", 10, x.now(3));
        x.comes(2);
        Expect.due("ten at most", 10, x.now(3));
        x.claims(3, 0);
        Expect.due("ten at most", 10, x.now(3));
        for (int i = 9; i >= 0; i--) {
            Expect.due("undo()", i, x.undo());
        }
        Expect.due("undo() of what is lost", STATE, x.undo());
        Expect.due("COME is lost to undo()", 1, x.now(0));
        Expect.due("pulls up is lost to undo()", 2, x.statue(1, 0));
        Expect.due("WRONGED", 3, x.statue(0, 3));
    }

    private static void refusedIsNotKnown() {
        InsultStatues x = Expect.told(TOWN);
        x.comes(0);
        x.comes(0);
        x.comes(9);
        x.goes(1);
        x.goes(9);
        x.claims(0, 0);
        x.claims(1, 1);
        x.claims(9, 0);
        x.pulls(0, 0);
        x.pulls(1, 0);
        x.pulls(1, 2);
        Expect.due("now(3)", 1, x.now(3));
        Expect.due("undo()", 0, x.undo());
        Expect.due("now(0)", 0, x.now(0));
    }

    private DeedTest() {
    }
}
