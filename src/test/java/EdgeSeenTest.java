/**
 * The boundary cases of promises 18 to 21: sees, forget, who, show. A test for each sentence, told above it in the
 * document's words.
 */
final class EdgeSeenTest {
    private static final int BAD = InsultStatues.BAD, FULL = InsultStatues.FULL, NONE = InsultStatues.NONE;
    private static final String TOWN = "t0 9a;t1 9b;t2 9c;p0 1 3a;p0 1 0ab;p0 1 0bc;p0 1 0f;";

    public static void main(String[] args) {
        sixAreSeen();
        badAheadOfFull();
        badSights();
        forgetting();
        whoOfNobodyAndAll();
        whoOfAllThatWasSeen();
        showNone();
        showLowest();
        showGreaterPart();
        Expect.end("EdgeSeenTest");
    }

    /** "SEEN (6 at most)"; sees: "how much there is .. FULL" */
    private static void sixAreSeen() {
        Run run = Run.told(TOWN).due("count(4)", 0);
        for (int n = 1; n <= 6; n++) {
            run.due("sees(2, 0)", n).due("count(4)", n);
        }
        run.due("who()", 11).refused("sees(2, 0)", FULL).refused("sees(0, 1)", FULL).refused("sees(2, 1)", FULL)
            .due("count(4)", 6).due("who()", 11).due("forget()", 6).due("sees(2, 1)", 1).due("who()", 4);
    }

    /** "the first of these: BAD .., FULL" */
    private static void badAheadOfFull() {
        Run.told(TOWN).calls("sees(0, 0)", "sees(0, 0)", "sees(0, 0)", "sees(0, 0)", "sees(0, 0)", "sees(0, 0)")
            .refused("sees(3, 0)", BAD).refused("sees(-1, 0)", BAD).refused("sees(0, 2)", BAD)
            .refused("sees(0, -1)", BAD).refused("sees(0, 0)", FULL);
    }

    /** "WRONGED by a STATUE (1), or not (0)"; sees: "BAD" */
    private static void badSights() {
        new Run().refused("sees(0, 0)", BAD).refused("sees(0, 1)", BAD);
        Run.told("p0 1 0a;p0 1 0a;").refused("sees(0, 0)", BAD);
        Run.told(TOWN).beyond("sees(#, 0)", 0, 2, BAD).beyond("sees(#, 1)", 0, 2, BAD).beyond("sees(0, #)", 0, 1, BAD)
            .refused("sees(3, 2)", BAD).due("sees(2, 1)", 1).due("sees(2, 0)", 2).due("count(4)", 2);
    }

    /** "Nothing is SEEN: how much was." */
    private static void forgetting() {
        new Run().due("forget()", 0);
        for (int n = 0; n <= 6; n++) {
            Run run = Run.told(TOWN).calls("comes(0)", "keep(0)");
            for (int i = 0; i < n; i++) {
                run.calls("sees(0, 1)");
            }
            run.due("forget()", n).due("count(4)", 0).due("who()", 15).refused("forget()", 0).due("now(0)", 1);
        }
    }

    /** "PEOPLE (bits) by whom all that was SEEN is so": all, when nothing was; none, when nobody can be. */
    private static void whoOfNobodyAndAll() {
        new Run().due("who()", 0);
        Run.told("t0 1a;").due("who()", 0).calls("sees(0, 0)").due("who()", 0);
        Run.told("p0 1 0a;").due("who()", 1);
        Run.told("p0 1 0a;p0 1 0a;p0 1 0a;p0 1 0a;p0 1 0a;p0 1 0a;t0 1a;t1 1b;").due("who()", 63)
            .calls("sees(0, 1)").due("who()", 63).calls("sees(1, 0)").due("who()", 63).calls("sees(1, 1)")
            .due("who()", 0);
        Run.told(TOWN).calls("sees(0, 1)", "sees(0, 0)").due("who()", 0);
    }

    /** "all that was SEEN": from the first to the sixth. */
    private static void whoOfAllThatWasSeen() {
        for (int at = 0; at < 6; at++) {
            Run run = Run.told(TOWN);
            for (int i = 0; i < 6; i++) {
                run.calls(i == at ? "sees(0, 1)" : "sees(2, 0)");
            }
            run.due("who()", 3);
        }
        Run.told(TOWN).calls("sees(0, 0)", "sees(1, 0)", "sees(2, 0)").due("who()", 8).calls("claims(0, 1)",
            "comes(0)").due("who()", 8).calls("forget()", "sees(1, 1)").due("who()", 7).calls("undo()", "undo()")
            .due("who()", 6);
    }

    /** show: "NONE (one can be at most, there are no STATUES)" */
    private static void showNone() {
        new Run().due("show()", NONE);
        Run.told("t0 1a;").due("show()", NONE);
        Run.told("t0 1a;p0 1 0a;").due("show()", NONE);
        Run.told("p0 1 0a;p0 1 0b;p0 1 0c;").due("who()", 7).due("show()", NONE);
        Run.told("t0 1a;p0 1 0a;p0 1 0b;").due("show()", 0).calls("sees(0, 1)").due("who()", 1).due("show()", NONE)
            .calls("sees(0, 0)").due("who()", 0).due("show()", NONE).calls("forget()").due("show()", 0);
        Run.told("t0 1a;p0 1 0a;p0 1 0a;").due("show()", 0).calls("sees(0, 1)").due("who()", 3).due("show()", 0);
        Run.told("t0 1f;p0 1 0a;p0 1 0a;").due("show()", 0);
    }

    /** "of several the lowest" */
    private static void showLowest() {
        Run.told("t0 1f;t1 1f;t2 1f;p0 1 0a;p0 1 0a;").due("show()", 0);
        Run.told("t0 1f;t1 1f;p0 1 0a;p0 1 0a;p0 1 0a;p0 1 0a;p0 1 0a;p0 1 0a;").due("show()", 0);
        Run.told("t0 1f;t1 1a;t2 1b;p0 1 0a;p0 1 0b;").due("show()", 1);
        Run.told("t0 1f;t1 1f;t2 1f;t3 1f;t4 1f;t5 1a;p0 1 0a;p0 1 0b;").due("show()", 5);
        Run.told("t5 1f;t4 1a;t3 1a;p0 1 0a;p0 1 0b;").due("show()", 1);
    }

    /** "by which, WRONGED or not, the greater part of these is smallest" */
    private static void showGreaterPart() {
        String six = "p0 1 0abcde;p0 1 0abcd;p0 1 0abc;p0 1 0ab;p0 1 0a;p0 1 0f;";
        Run.told("t0 1a;t1 1b;t2 1c;t3 1d;t4 1e;" + six).due("show()", 2).calls("sees(0, 0)").due("show()", NONE);
        Run.told("t0 1a;t1 1e;t2 1b;t3 1d;" + six).due("show()", 2);
        Run.told("t0 1e;t1 1d;" + six).due("show()", 1);
        Run.told("t0 1a;t1 1b;" + six).due("show()", 1);
        Run.told("t0 1a;t1 1e;" + six).due("show()", 0);
        Run.told("t0 1c;t1 1b;t2 1d;" + six).due("show()", 0).calls("sees(0, 1)").due("who()", 7).due("show()", 2)
            .calls("forget()", "sees(0, 0)").due("who()", 56).due("show()", 1);
    }

    private EdgeSeenTest() {
    }
}
