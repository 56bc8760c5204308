/**
 * The boundary cases of promises 5 to 12: what is asked of statues, of people and of now; coming, going, claiming,
 * pulling, undoing. A test for each sentence, told above it in the document's words.
 */
final class EdgeDeedTest {
    private static final int BAD = InsultStatues.BAD, STATE = InsultStatues.STATE, FULL = InsultStatues.FULL;
    private static final String TOWN = "n7;v2;t0 8a;t1 3b;t4 6c;p0 5 1ab;p2 4 3ac;p3 6 2c;p6 9 0f;";
    /** Six of each, all wronged by all, together as strong as can be. */
    private static final String CROWD = "v3;t0 1a;t1 9a;t2 10a;t3 29a;t4 30a;t5 30b;"
        + "p0 9 3ab;p1 9 3ab;p2 9 3ab;p3 9 3ab;p2 9 3ab;p3 9 3ab;";

    public static void main(String[] args) {
        statuesAsked();
        wrongedNobodyAndAll();
        pullOfNobodyAndAll();
        offendedNobodyAndAll();
        placeAmongFullYards();
        placeLowest();
        peopleAsked();
        believedSoOften();
        nowAsked();
        nowOfNobodyAndAll();
        movesByWeight();
        coming();
        going();
        claimingByCredit();
        claimingWhenWronged();
        badClaims();
        claimsAnswerPull();
        pullingToTheEnds();
        pullingWhereOneStands();
        pullingWhatDoesNotMove();
        badPulls();
        undoingNothing();
        tenAreKnown();
        undoneIsGone();
        undoneOneByOne();
        refusedIsNotUndone();
        othersAreNotUndone();
        toTheLastCall();
        Expect.end("EdgeDeedTest");
    }

    /** "Of a STATUE: 0 YARD, .. 6 PLACE. BAD." */
    private static void statuesAsked() {
        new Run().beyond("statue(#, 0)", 0, -1, BAD);
        Run.told("t0 1a;").beyond("statue(#, 0)", 0, 0, BAD).beyond("statue(0, #)", 0, 6, BAD);
        Run run = Run.told(CROWD).beyond("statue(#, 6)", 0, 5, BAD).beyond("statue(5, #)", 0, 6, BAD);
        run.refused("statue(6, 7)", BAD).refused("statue(-1, -1)", BAD);
        for (int s = 0; s < 6; s++) {
            run.due("statue(" + s + ", 0)", s).due("statue(" + s + ", 6)", s);
        }
    }

    /** "3 who is WRONGED by it (bits)": nobody, where nobody is, and six. */
    private static void wrongedNobodyAndAll() {
        Run.told("t0 1a;").due("statue(0, 3)", 0);
        Run.told("t0 1a;p0 9 3bcdef;").due("statue(0, 3)", 0).calls("comes(0)").due("statue(0, 3)", 0);
        Run.told(CROWD).due("statue(0, 3)", 63).due("statue(5, 3)", 63);
        Run.told("t0 1a;p0 1 0b;p0 1 0b;p0 1 0b;p0 1 0b;p0 1 0b;p0 1 0a;").due("statue(0, 3)", 32);
    }

    /** "PULL at it: how STRONG all are together who have COME and are WRONGED by it." */
    private static void pullOfNobodyAndAll() {
        Run.told("t0 1a;").due("statue(0, 4)", 0);
        Run run = Run.told(CROWD).due("statue(0, 4)", 0);
        for (int p = 0; p < 6; p++) {
            run.calls("comes(" + p + ")").due("statue(0, 4)", 9 * p + 9).due("statue(5, 4)", 9 * p + 9);
        }
        for (int p = 0; p < 6; p++) {
            run.calls("goes(" + p + ")").due("statue(0, 4)", 45 - 9 * p);
        }
        Run.told(TOWN).calls("comes(3)").due("statue(0, 4)", 0).due("statue(1, 4)", 0).due("statue(2, 4)", 0);
    }

    /** "5 how many it OFFENDS where it is": nobody, where nobody is, and six. */
    private static void offendedNobodyAndAll() {
        Run.told("t0 1a;").due("statue(0, 5)", 0);
        Run.told(CROWD).due("statue(0, 5)", 6).due("statue(1, 5)", 6).due("statue(5, 5)", 4);
        Run.told("v0;t0 1a;p1 1 0a;").due("statue(0, 5)", 0);
    }

    /** "the empty YARD (its own, too)": of all that are full, its own alone. */
    private static void placeAmongFullYards() {
        Run.told("n2;v0;t0 1a;t1 1b;p0 1 0a;p0 1 0a;p1 1 0b;").due("statue(0, 6)", 0).due("statue(1, 6)", 1);
        Run.told("n3;v0;t0 1a;t1 1a;p0 1 0a;p0 1 0a;p1 1 0a;p2 1 0a;").due("statue(0, 6)", 2).due("statue(1, 6)", 1);
        Run.told("n2;v0;t0 1a;p0 1 0a;").due("statue(0, 6)", 1);
        Run.told("n2;v0;t0 1a;p1 1 0a;").due("statue(0, 6)", 0);
        Run.told("n10;v0;t4 1a;p0 1 0a;p1 1 0a;p2 1 0a;p3 1 0a;p5 1 0a;p6 1 0a;t7 1a;t8 1b;t9 1b;")
            .due("statue(0, 6)", 4).due("statue(1, 6)", 7);
    }

    /** "in which it OFFENDS fewest, of several the lowest" */
    private static void placeLowest() {
        Run.told("n10;t9 1a;").due("statue(0, 6)", 0);
        Run.told("n10;t0 1a;").due("statue(0, 6)", 0);
        Run.told("n10;t9 1a;t0 1a;").due("statue(0, 6)", 1).due("statue(1, 6)", 0);
        Run.told("n10;v3;t0 1a;p0 1 0a;p5 1 0a;").due("statue(0, 6)", 9);
        Run.told("n10;v3;t0 1a;p0 1 0a;p6 1 0a;p6 1 0a;").due("statue(0, 6)", 0);
        Run.told("n2;v3;t1 1a;p0 1 0a;p0 1 0a;p0 1 0a;p1 1 0a;p1 1 0a;p1 1 0a;").due("statue(0, 6)", 0);
    }

    /** "Of one: 0 HOME, .. 5 how often he was believed. BAD." */
    private static void peopleAsked() {
        new Run().beyond("one(#, 0)", 0, -1, BAD);
        Run.told("p0 1 0a;").beyond("one(#, 0)", 0, 0, BAD).beyond("one(0, #)", 0, 5, BAD);
        Run run = Run.told(CROWD).beyond("one(#, 5)", 0, 5, BAD).beyond("one(5, #)", 0, 5, BAD);
        run.refused("one(6, 6)", BAD).refused("one(-1, -1)", BAD);
        run.due("one(5, 0)", 3).due("one(5, 4)", 0).calls("comes(5)").due("one(5, 4)", 1).due("one(4, 4)", 0)
            .calls("goes(5)").due("one(5, 4)", 0);
    }

    /** "5 how often he was believed": never at first, three times at most, not when he was not believed. */
    private static void believedSoOften() {
        Run.told("t0 1a;t1 1a;t2 1a;t3 1a;p0 1 3b;").due("one(0, 5)", 0).calls("claims(0, 0)").due("one(0, 5)", 1)
            .calls("claims(0, 0)").due("one(0, 5)", 1).calls("claims(0, 3)").due("one(0, 5)", 2)
            .calls("claims(0, 2)").due("one(0, 5)", 3).calls("claims(0, 1)").due("one(0, 5)", 3)
            .calls("comes(0)", "goes(0)").due("one(0, 5)", 3);
    }

    /** "0 who has COME (bits), .. 3 how many may be UNDONE. BAD." */
    private static void nowAsked() {
        new Run().beyond("now(#)", 0, 3, BAD);
        Run.told(CROWD).calls("comes(0)", "comes(5)").beyond("now(#)", 0, 3, BAD).due("now(0)", 33)
            .due("now(1)", 7).due("now(2)", 0).due("now(3)", 2);
    }

    /** "Nobody has COME at first": none of all, and all of them, of PEOPLE, of STATUES, of YARDS. */
    private static void nowOfNobodyAndAll() {
        Run.told(CROWD).due("now(0)", 0).due("now(1)", 0).due("now(2)", 0).due("now(3)", 0)
            .calls("comes(0)", "comes(1)", "comes(2)", "comes(3)", "comes(4)", "comes(5)").due("now(0)", 63)
            .due("now(1)", 63).due("now(2)", 0).due("now(3)", 6);
        Run.told("n2;").due("now(2)", 3);
        Run.told("n10;").due("now(2)", 1023);
        Run.told("n10;t0 1a;t9 1a;").due("now(2)", 510);
        Run.told("n2;t1 1a;t0 1a;").due("now(2)", 0);
    }

    /** "It MOVES, if PULL is WEIGHT or more." */
    private static void movesByWeight() {
        Run.told(CROWD).calls("comes(3)").due("now(1)", 3).calls("comes(4)").due("now(1)", 7).calls("comes(5)")
            .due("now(1)", 7).calls("comes(0)").due("now(1)", 63);
        Run.told("t0 30a;p0 9 0a;p0 9 0a;p0 9 0a;p0 2 0a;p0 1 0a;").calls("comes(0)", "comes(1)", "comes(2)",
            "comes(3)").due("statue(0, 4)", 29).due("now(1)", 0).refused("pulls(0, 1)", STATE).calls("comes(4)")
            .due("statue(0, 4)", 30).due("now(1)", 1).due("pulls(0, 1)", 1);
        Run.told("t0 1a;p0 1 0a;").due("now(1)", 0).calls("comes(0)").due("now(1)", 1);
        Run.told("t0 1a;p0 9 0b;").calls("comes(0)").due("now(1)", 0);
    }

    /** "COME: how many have. BAD; STATE: he has." */
    private static void coming() {
        Run run = Run.told(CROWD).beyond("comes(#)", 0, 5, BAD);
        for (int p = 5; p >= 0; p--) {
            run.due("comes(" + p + ")", 6 - p).refused("comes(" + p + ")", STATE);
        }
        run.beyond("comes(#)", 0, 5, BAD).refused("comes(0)", STATE).refused("comes(5)", STATE);
        Run.told("p0 1 0a;").refused("comes(1)", BAD).due("comes(0)", 1).calls("goes(0)").due("comes(0)", 1);
    }

    /** "GONE: how many are left. BAD; STATE: he has not COME." */
    private static void going() {
        Run run = Run.told(CROWD).beyond("goes(#)", 0, 5, BAD).refused("goes(0)", STATE).refused("goes(5)", STATE);
        run.calls("comes(0)", "comes(1)", "comes(2)", "comes(3)", "comes(4)", "comes(5)");
        for (int p = 0; p < 6; p++) {
            run.due("goes(" + p + ")", 5 - p).refused("goes(" + p + ")", STATE);
        }
        run.beyond("goes(#)", 0, 5, BAD);
        Run.told(TOWN).calls("comes(0)").refused("goes(1)", STATE).refused("goes(3)", STATE).refused("goes(4)", BAD);
    }

    /** "he is believed, if he was believed less often than CREDIT till then"; "FULL: he is not believed" */
    private static void claimingByCredit() {
        for (int credit = 0; credit <= 3; credit++) {
            Run run = Run.told("t0 1a;t1 1b;t2 1c;t3 1d;t4 1e;p0 7 " + credit + "f;p0 1 3f;").calls("comes(0)");
            for (int s = 0; s < credit; s++) {
                run.due("claims(0, " + s + ")", 7).due("one(0, 5)", s + 1).due("statue(" + s + ", 3)", 1);
            }
            run.refused("claims(0, " + credit + ")", FULL).refused("claims(0, 4)", FULL).due("one(0, 5)", credit)
                .due("statue(4, 3)", 0).due("claims(1, 4)", 0).due("statue(4, 3)", 2);
            if (credit > 0) {
                run.calls("undo()", "undo()").refused("claims(0, 9)", BAD).due("claims(0, 4)", 7)
                    .refused("claims(0, 3)", FULL);
            }
        }
    }

    /** "STATE: he is WRONGED by it already": by its INSULT or by what he CLAIMED, believed any more or not. */
    private static void claimingWhenWronged() {
        Run.told("t0 1a;t1 1b;p0 1 0a;p0 1 1a;p0 1 3ab;").refused("claims(0, 0)", STATE).refused("claims(0, 1)", FULL)
            .refused("claims(1, 0)", STATE).due("claims(1, 1)", 0).refused("claims(1, 1)", STATE)
            .refused("claims(1, 0)", STATE).refused("claims(2, 0)", STATE).refused("claims(2, 1)", STATE)
            .calls("undo()").due("claims(1, 1)", 0);
        Run.told("t0 1a;p0 1 3b;").due("claims(0, 0)", 0).refused("claims(0, 0)", STATE).due("one(0, 5)", 1)
            .due("now(3)", 1);
    }

    /** claims: "BAD", ahead of STATE and of FULL. */
    private static void badClaims() {
        Run.told("t0 1a;t1 1b;p0 1 0a;p0 1 1b;").beyond("claims(#, 0)", 0, 1, BAD).beyond("claims(0, #)", 0, 1, BAD)
            .beyond("claims(1, #)", 0, 1, BAD).refused("claims(2, 2)", BAD).refused("claims(-1, -1)", BAD);
    }

    /** "CLAIMED: PULL at it then." */
    private static void claimsAnswerPull() {
        Run.told("t0 1a;t1 30a;p0 9 3b;p0 5 1a;").due("claims(0, 0)", 0).calls("comes(1)").due("claims(0, 1)", 5)
            .calls("comes(0)").due("statue(0, 4)", 14).due("statue(1, 4)", 14).calls("undo()", "undo()")
            .due("claims(0, 1)", 5).calls("undo()", "comes(0)").due("claims(0, 1)", 14).due("one(0, 3)", 2);
        Run.told("t0 1a;p0 5 1b;p0 4 1b;").calls("comes(0)", "comes(1)").due("claims(1, 0)", 4).due("claims(0, 0)", 9)
            .due("statue(0, 3)", 3).calls("undo()").due("statue(0, 3)", 2).due("statue(0, 4)", 4);
    }

    /** "if there is such a YARD": down from the first and up from the last, in rows of each length. */
    private static void pullingToTheEnds() {
        for (int n = 2; n <= 10; n++) {
            Run run = Run.told("n" + n + ";t0 9a;p0 9 0a;").calls("comes(0)").refused("pulls(0, 0)", STATE);
            for (int yard = 1; yard < n; yard++) {
                run.due("pulls(0, 1)", yard);
            }
            run.refused("pulls(0, 1)", STATE).due("statue(0, 0)", n - 1);
            for (int yard = n - 2; yard >= 0; yard--) {
                run.due("pulls(0, 0)", yard);
            }
            run.refused("pulls(0, 0)", STATE).due("statue(0, 0)", 0).due("now(2)", (1 << n) - 2);
        }
    }

    /** "and it is empty" */
    private static void pullingWhereOneStands() {
        Run.told("n4;t1 1a;t2 1a;p0 1 0a;").calls("comes(0)").refused("pulls(0, 1)", STATE)
            .refused("pulls(1, 0)", STATE).due("pulls(0, 0)", 0).due("pulls(1, 0)", 1).refused("pulls(1, 0)", STATE)
            .refused("pulls(0, 1)", STATE).due("pulls(1, 1)", 2).due("pulls(0, 1)", 1).due("pulls(1, 1)", 3)
            .due("pulls(0, 1)", 2).refused("pulls(0, 1)", STATE).refused("pulls(1, 1)", STATE);
        Run full = Run.told(CROWD).calls("comes(0)", "comes(1)", "comes(2)", "comes(3)").due("now(1)", 63);
        for (int s = 0; s < 6; s++) {
            full.refused("pulls(" + s + ", 0)", STATE).refused("pulls(" + s + ", 1)", STATE);
        }
    }

    /** "a STATUE that MOVES"; "STATE: it does not MOVE" */
    private static void pullingWhatDoesNotMove() {
        Run.told("n3;t1 9a;p0 8 0a;p0 1 0a;p0 9 0b;").refused("pulls(0, 0)", STATE).refused("pulls(0, 1)", STATE)
            .calls("comes(0)", "comes(2)").refused("pulls(0, 0)", STATE).refused("pulls(0, 1)", STATE)
            .calls("comes(1)").due("pulls(0, 1)", 2).calls("goes(0)").refused("pulls(0, 0)", STATE);
        Run.told("n3;t1 1a;").refused("pulls(0, 0)", STATE).refused("pulls(0, 1)", STATE);
    }

    /** "to a side (0: down, 1: up)": pulls: "BAD", ahead of STATE. */
    private static void badPulls() {
        Run.told("t1 1a;t2 30a;p0 1 0a;").beyond("pulls(0, #)", 0, 1, BAD).beyond("pulls(#, 0)", 0, 1, BAD)
            .refused("pulls(2, 2)", BAD).refused("pulls(-1, -1)", BAD).calls("comes(0)")
            .beyond("pulls(0, #)", 0, 1, BAD).beyond("pulls(#, 1)", 0, 1, BAD).due("pulls(0, 0)", 0)
            .refused("pulls(0, 2)", BAD).refused("pulls(0, 0)", STATE);
    }

    /** undo: "STATE: none." */
    private static void undoingNothing() {
        new Run().refused("undo()", STATE);
        Run.told(TOWN).refused("undo()", STATE).calls("comes(0)").due("undo()", 0).refused("undo()", STATE)
            .refused("undo()", STATE).due("comes(0)", 1).due("now(3)", 1);
        Run.told(TOWN).calls("keep(0)", "comes(0)", "back(0)").refused("undo()", STATE);
        Run.told(TOWN).calls("comes(0)", "comes(1)").type("t0 1a;").due("town()", 1).refused("undo()", STATE);
    }

    /** "the latest comes(), goes(), claims(), pulls() that was not refused (10 are known, older ones are lost)" */
    private static void tenAreKnown() {
        for (int deeds = 0; deeds <= 35; deeds++) {
            Run run = Run.told(CROWD);
            int[] come = new int[deeds + 1];
            for (int i = 0; i < deeds; i++) {
                int p = i * 5 % 6;
                run.calls((come[i] >> p & 1) == 0 ? "comes(" + p + ")" : "goes(" + p + ")");
                come[i + 1] = come[i] ^ 1 << p;
                run.due("now(3)", Math.min(10, i + 1));
            }
            int known = Math.min(10, deeds);
            for (int i = 1; i <= known; i++) {
                run.due("undo()", known - i).due("now(0)", come[deeds - i]);
            }
            run.refused("undo()", STATE).due("now(0)", come[deeds - known]);
        }
    }

    /** What was UNDONE makes room for others to be known, and can't be UNDONE itself. */
    private static void undoneIsGone() {
        Run run = Run.told("n10;t0 1a;p0 1 0a;").calls("comes(0)");
        for (int yard = 1; yard <= 9; yard++) {
            run.calls("pulls(0, 1)");
        }
        run.due("now(3)", 10).calls("pulls(0, 0)").due("now(3)", 10);
        run.due("undo()", 9).due("statue(0, 0)", 9).due("undo()", 8).due("statue(0, 0)", 8);
        run.due("pulls(0, 0)", 7).due("now(3)", 9).due("pulls(0, 0)", 6).due("now(3)", 10).due("pulls(0, 0)", 5)
            .due("now(3)", 10);
        int[] yards = {6, 7, 8, 7, 6, 5, 4, 3, 2, 1};
        for (int i = 0; i < yards.length; i++) {
            run.due("undo()", 9 - i).due("statue(0, 0)", yards[i]);
        }
        run.refused("undo()", STATE).due("statue(0, 0)", 1).due("now(0)", 1);
    }

    /** Each of the four, by itself, and what it did to belief, to PULL and to empty YARDS. */
    private static void undoneOneByOne() {
        Run.told(TOWN).calls("comes(1)").due("undo()", 0).due("now(0)", 0).due("one(1, 4)", 0);
        Run.told(TOWN).calls("comes(1)", "goes(1)").due("undo()", 1).due("now(0)", 2).due("one(1, 4)", 1);
        Run.told(TOWN).calls("claims(1, 1)").due("undo()", 0).due("statue(1, 3)", 1).due("one(1, 5)", 0);
        Run.told(TOWN).calls("comes(0)", "pulls(1, 1)").due("undo()", 1).due("statue(1, 0)", 1).due("now(2)", 108);
        Run.told(TOWN).calls("comes(0)", "pulls(1, 1)", "pulls(1, 0)").due("undo()", 2).due("statue(1, 0)", 2)
            .due("now(2)", 106);
    }

    /** "that was not refused" */
    private static void refusedIsNotUndone() {
        Run.told(TOWN).calls("comes(0)").refused("comes(0)", STATE).refused("comes(4)", BAD).refused("goes(1)", STATE)
            .refused("goes(-1)", BAD).refused("claims(0, 0)", STATE).refused("claims(3, 0)", FULL)
            .refused("claims(0, 3)", BAD).refused("pulls(0, 1)", STATE).refused("pulls(1, 0)", STATE)
            .refused("pulls(1, 2)", BAD).due("now(3)", 1).due("undo()", 0).due("now(0)", 0);
    }

    /** "comes(), goes(), claims(), pulls()": no other call can be UNDONE, and none takes from what can. */
    private static void othersAreNotUndone() {
        Run.told(TOWN).calls("comes(0)", "type(110)", "sees(0, 1)", "keep(0)", "rate(5, 0)", "gather(1)", "bare(0, 0)",
            "scale(0, 0)", "offends(0, 0)", "odds(0, 1, 0)", "who()", "show()", "statue(0, 6)", "one(0, 5)")
            .due("now(3)", 1).due("undo()", 0).due("now(0)", 0).due("count(4)", 1).due("count(5)", 1)
            .due("trace()", 100001).due("back(0)", 1).due("now(0)", 1);
        Run.told(TOWN).calls("comes(0)", "sees(0, 1)", "forget()", "type(110)", "clear()").due("now(3)", 1)
            .due("undo()", 0).due("count(4)", 0).due("count(5)", 0);
    }

    /** "An object is used for at most 512 calls": the last of them is answered like the first. */
    private static void toTheLastCall() {
        Run run = Run.told("n2;t0 1a;p0 1 0a;");
        int calls = "n2;t0 1a;p0 1 0a;".length() + 1;
        run.due("comes(0)", 1);
        calls++;
        for (int i = 0; calls < 511; i++) {
            run.due("pulls(0, " + (1 - i % 2) + ")", 1 - i % 2);
            calls++;
        }
        run.due("undo()", 9);
    }

    private EdgeDeedTest() {
    }
}
