/**
 * The boundary cases of promises 22 to 24 and 26: rate, keep, back, trace. A test for each sentence, told above it in
 * the document's words.
 */
final class EdgeKindTest {
    private static final int BAD = InsultStatues.BAD, STATE = InsultStatues.STATE, NO = InsultStatues.NO;
    private static final String TOWN = "n10;v3;t0 8a;t4 3b;t9 30c;p0 5 2ab;p2 4 1ac;p3 6 2c;";
    private static final String SIX = "p0 9 0a;p0 9 0a;p0 9 0a;p0 9 0a;p0 9 0a;p0 9 0a;";

    public static void main(String[] args) {
        badRates();
        ratesOfTheFirstAndTheLast();
        ratesBelowZero();
        ratesThatLookRefused();
        traceOfEachKind();
        traceOfRefused();
        traceStays();
        badImages();
        noneWasKept();
        keptOfNothing();
        keptByHowMany();
        keptAnew();
        eachImageByItself();
        nothingElseIsKept();
        nothingUndoneBehindBack();
        goneWhenReadAnew();
        Expect.end("EdgeKindTest");
    }

    /** rate: "NO: BAD." */
    private static void badRates() {
        new Run().beyond("rate(0, #)", 0, -1, NO).beyond("rate(#, 0)", 0, 5, NO);
        Run.told(TOWN).beyond("rate(#, 0)", 0, 5, NO).beyond("rate(0, #)", 0, 2, NO).beyond("rate(5, #)", 0, 2, NO)
            .refused("rate(6, 3)", NO).refused("rate(-1, -1)", NO);
    }

    /** "KINDS .. 0 STATUE; 1 GENERAL, 2 POET, 5 GIRL ..; 3 HORSE ..; 4 SAINT": of STATUES 0 and 5, in YARDS 0 and 9. */
    private static void ratesOfTheFirstAndTheLast() {
        Run run = Run.told("n10;t0 1a;t1 1b;t2 1b;t3 1b;t4 1b;t9 30b;" + SIX).calls("comes(0)", "comes(5)");
        int[] first = {1, 1, -17, 2, -17, 7};
        int[] last = {30, 39, 30, 78, 35, 30};
        for (int kind = 0; kind < 6; kind++) {
            run.due("rate(" + kind + ", 0)", first[kind]).due("rate(" + kind + ", 5)", last[kind]);
        }
    }

    /** "NO: What is BAD, where a number may be below 0": as far below as it can be. */
    private static void ratesBelowZero() {
        Run.told("t0 1a;" + SIX).calls("comes(0)", "comes(1)", "comes(2)", "comes(3)", "comes(4)", "comes(5)")
            .due("rate(2, 0)", -53).due("rate(4, 0)", -53).due("rate(0, 0)", 1).due("rate(5, 0)", 7);
        Run.told("t0 9a;p0 9 0a;").calls("comes(0)").due("rate(2, 0)", 0).due("rate(4, 0)", 0);
    }

    /** -1, -2, -3 and -9 are RATES like others: THE TRACE goes on by them. */
    private static void ratesThatLookRefused() {
        Run run = Run.told("t0 8a;t1 7a;t2 6a;p0 9 0a;").calls("comes(0)");
        run.due("rate(2, 0)", -1).due("rate(2, 1)", -2).due("rate(2, 2)", -3).due("rate(4, 1)", -1)
            .due("trace()", 10404);
        Run.told("t0 9a;p0 9 0a;p0 9 0a;").calls("comes(0)", "comes(1)").due("rate(2, 0)", -9).due("trace()", 101);
    }

    /** "numbers in brackets are added to THE TRACE, 0 at first, as often as rate() asks that body: each once" */
    private static void traceOfEachKind() {
        int[] added = {1, 11, 101, 1011, 10101, 100001};
        new Run().due("trace()", 0);
        for (int kind = 0; kind < 6; kind++) {
            String rate = "rate(" + kind + ", 0)";
            Run.told(TOWN).due("trace()", 0).calls(rate).due("trace()", added[kind]).calls(rate, rate)
                .due("trace()", 3 * added[kind]);
        }
        Run.told(TOWN).calls("rate(0, 0)", "rate(1, 0)", "rate(2, 0)", "rate(3, 0)", "rate(4, 0)", "rate(5, 0)")
            .due("trace()", 111226);
        Run long300 = Run.told("t0 1a;");
        for (int i = 0; i < 300; i++) {
            long300.calls("rate(5, 0)");
        }
        long300.due("trace()", 30000300);
    }

    /** "Refused, and nothing changes": THE TRACE neither. */
    private static void traceOfRefused() {
        Run.told(TOWN).calls("rate(3, 1)").refused("rate(6, 0)", NO).refused("rate(-1, 0)", NO)
            .refused("rate(3, 3)", NO).refused("rate(3, -1)", NO).due("trace()", 1011);
    }

    /** No other call adds to THE TRACE, or takes from it. */
    private static void traceStays() {
        Run.told(TOWN).calls("rate(5, 1)", "keep(0)", "comes(0)", "rate(0, 0)", "undo()", "back(0)", "statue(0, 6)",
            "gather(1)", "bare(0, 0)", "scale(0, 0)", "odds(0, 1, 0)", "sees(0, 1)", "who()", "show()", "forget()")
            .due("trace()", 100002).due("town()", 0).due("trace()", 100002);
    }

    /** "IMAGES 0, 1"; keep, back: "BAD", ahead of STATE. */
    private static void badImages() {
        new Run().beyond("keep(#)", 0, 1, BAD).beyond("back(#)", 0, 1, BAD);
        Run.told(TOWN).calls("comes(0)", "keep(0)", "comes(1)", "keep(1)", "comes(2)").beyond("keep(#)", 0, 1, BAD)
            .beyond("back(#)", 0, 1, BAD);
    }

    /** back: "STATE: none was kept." */
    private static void noneWasKept() {
        new Run().refused("back(0)", STATE).refused("back(1)", STATE);
        Run.told(TOWN).calls("comes(0)").refused("back(0)", STATE).refused("back(1)", STATE).calls("keep(0)")
            .refused("back(1)", STATE).due("now(3)", 1).due("back(0)", 1);
        Run.told(TOWN).calls("comes(0)", "keep(1)", "goes(0)").refused("back(0)", STATE).due("back(1)", 1);
    }

    /** Nothing there at all can be kept, too. */
    private static void keptOfNothing() {
        new Run().due("keep(0)", 0).due("keep(1)", 0).due("back(1)", 0).due("back(0)", 0).due("now(2)", 63);
        Run.told(TOWN).due("keep(1)", 0).calls("comes(0)", "pulls(1, 1)", "claims(1, 1)").due("back(1)", 0)
            .due("now(0)", 0).due("statue(1, 0)", 4).due("statue(1, 3)", 1).due("one(1, 5)", 0);
    }

    /** keep, back: "how many have COME" */
    private static void keptByHowMany() {
        Run run = Run.told("t0 1a;" + SIX).due("keep(0)", 0);
        for (int p = 0; p < 6; p++) {
            run.calls("comes(" + p + ")").due("keep(1)", p + 1).due("back(0)", 0).due("now(0)", 0)
                .due("back(1)", p + 1).due("now(0)", (2 << p) - 1);
        }
    }

    /** "An IMAGE is kept": in the place of what it had; it stays behind back(). */
    private static void keptAnew() {
        Run.told(TOWN).calls("comes(0)", "keep(0)", "pulls(1, 0)", "comes(2)").due("keep(0)", 2).calls("goes(0)")
            .due("back(0)", 2).due("now(0)", 5).due("statue(1, 0)", 3).calls("goes(2)", "pulls(1, 0)")
            .due("back(0)", 2).due("now(0)", 5).due("statue(1, 0)", 3);
    }

    /** "All of that becomes as an IMAGE has it": YARDS of STATUES, who has COME, what was CLAIMED. */
    private static void eachImageByItself() {
        Run run = Run.told("n10;t0 1a;t1 1a;t2 1a;t3 1a;t4 1a;t5 1a;p0 1 3a;p0 1 3b;").calls("comes(0)");
        run.calls("pulls(5, 1)", "pulls(5, 1)", "claims(1, 0)", "claims(1, 5)", "keep(0)", "pulls(5, 1)",
            "claims(1, 3)", "goes(0)", "comes(1)", "keep(1)", "comes(0)", "pulls(4, 1)");
        for (int round = 0; round < 2; round++) {
            run.due("back(0)", 1).due("now(0)", 1).due("statue(5, 0)", 7).due("statue(4, 0)", 4).due("statue(0, 3)", 3)
                .due("statue(5, 3)", 3).due("statue(3, 3)", 1).due("one(1, 5)", 2).due("now(2)", 864);
            run.due("back(1)", 1).due("now(0)", 2).due("statue(5, 0)", 8).due("statue(4, 0)", 4).due("statue(0, 3)", 3)
                .due("statue(5, 3)", 3).due("statue(3, 3)", 3).due("one(1, 5)", 3).due("now(2)", 736)
                .refused("claims(1, 1)", InsultStatues.FULL);
        }
        run.due("back(0)", 1).due("claims(1, 1)", 1);
        Run.told("n3;t1 1a;p0 1 1a;p0 1 1b;").calls("comes(0)", "keep(0)", "pulls(0, 1)", "claims(1, 0)", "keep(1)")
            .due("back(0)", 1).due("statue(0, 0)", 1).due("statue(0, 3)", 1).due("one(1, 5)", 0)
            .due("back(1)", 1).due("statue(0, 0)", 2).due("statue(0, 3)", 3).due("one(1, 5)", 1);
    }

    /** "nothing else": neither what was SEEN, nor THE TEXT, nor THE TRACE, nor what keep() leaves to be UNDONE. */
    private static void nothingElseIsKept() {
        Run.told(TOWN).calls("sees(0, 1)", "rate(0, 0)", "type(110)", "comes(0)").due("keep(0)", 1).due("now(3)", 1)
            .calls("sees(1, 0)", "rate(0, 0)", "type(50)", "comes(1)").due("back(0)", 1).due("count(4)", 2)
            .due("who()", 2).due("trace()", 2).due("count(5)", 2).calls("forget()", "clear()").due("back(0)", 1)
            .due("count(4)", 0).due("count(5)", 0).due("count(0)", 10).due("count(3)", 3);
    }

    /** "(nothing can be UNDONE behind back())" */
    private static void nothingUndoneBehindBack() {
        Run.told(TOWN).calls("comes(0)", "keep(0)", "comes(1)").due("now(3)", 2).due("back(0)", 1).due("now(3)", 0)
            .refused("undo()", STATE).calls("comes(2)").due("now(3)", 1).due("undo()", 0).due("now(0)", 1)
            .refused("undo()", STATE);
        Run run = Run.told(TOWN).calls("keep(1)");
        for (int i = 0; i < 12; i++) {
            run.calls(i % 2 == 0 ? "comes(0)" : "goes(0)");
        }
        run.due("now(3)", 10).due("back(1)", 0).due("now(3)", 0).refused("undo()", STATE);
    }

    /** "Read anew: .. IMAGES are gone"; a text that is at fault leaves them. */
    private static void goneWhenReadAnew() {
        Run.told(TOWN).calls("comes(0)", "keep(0)", "keep(1)").type("t").fault(1).calls("goes(0)").due("back(0)", 1)
            .calls("clear()").due("town()", 0).refused("back(0)", STATE).refused("back(1)", STATE).due("keep(1)", 0)
            .refused("back(0)", STATE).due("back(1)", 0);
    }

    private EdgeKindTest() {
    }
}
