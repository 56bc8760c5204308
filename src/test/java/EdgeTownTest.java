/**
 * The boundary cases of promises 1 to 4 and 25, and of the bounds in "Terms" that a text must keep: a test for each
 * sentence (told above it in the document's words), with the last that is allowed and the first that is not.
 */
final class EdgeTownTest {
    private static final int BAD = InsultStatues.BAD, STATE = InsultStatues.STATE;
    private static final int NONE = InsultStatues.NONE, NO = InsultStatues.NO;

    public static void main(String[] args) {
        newObject();
        nothingToAskOfANewObject();
        yards();
        yardsAtFirst();
        insultsOfStatues();
        insultsOfPeople();
        sixStatues();
        sixPeople();
        unlikeYards();
        yardsOfStatues();
        homes();
        weights();
        strengths();
        credits();
        sights();
        yardsComeFirst();
        sightOnce();
        rowsOfPeople();
        toldTwice();
        Expect.end("EdgeTownTest");
    }

    /** "As told; no STATUES, no PEOPLE." */
    private static void newObject() {
        new Run().due("count(0)", 6).due("count(1)", 0).due("count(2)", 0).due("count(3)", 1).due("count(4)", 0)
            .due("count(5)", 0).due("now(0)", 0).due("now(1)", 0).due("now(2)", 63).due("now(3)", 0)
            .due("who()", 0).due("show()", NONE).due("trace()", 0).due("gather(0)", 0).due("forget()", 0)
            .due("clear()", 0).due("bare(0, 0)", 0).due("bare(5, 0)", 0).due("bare(5, 1)", NONE)
            .due("keep(0)", 0).due("back(0)", 0).due("town()", 0);
    }

    /** "BAD (.. there is no such thing)": where no thing is, each number is. */
    private static void nothingToAskOfANewObject() {
        new Run().refused("statue(0, 0)", BAD).refused("one(0, 0)", BAD).refused("comes(0)", BAD)
            .refused("goes(0)", BAD).refused("claims(0, 0)", BAD).refused("pulls(0, 0)", BAD).refused("undo()", STATE)
            .refused("gather(1)", BAD).refused("bare(6, 0)", BAD).refused("scale(0, 0)", BAD)
            .refused("offends(0, 0)", BAD).refused("odds(0, 0, 0)", BAD).refused("sees(0, 0)", BAD)
            .refused("rate(0, 0)", NO).refused("back(0)", STATE).refused("back(1)", STATE);
        Run.told("p0 1 3a;").refused("claims(0, 0)", BAD).refused("scale(0, 0)", BAD);
        Run.told("t0 1a;").refused("claims(0, 0)", BAD).refused("scale(0, 0)", BAD).refused("comes(0)", BAD);
    }

    /** "YARDS 0 .. as many as are told less 1 (2 .. 10; ..) in a row." */
    private static void yards() {
        for (int n = 2; n <= 10; n++) {
            Run.told("n" + n + ";t0 1a;").due("count(0)", n).due("now(2)", (1 << n) - 2)
                .due("bare(" + (n - 1) + ", 0)", 0).due("offends(0, " + (n - 1) + ")", 0)
                .refused("bare(" + n + ", 0)", BAD).refused("offends(0, " + n + ")", BAD);
        }
        for (int n : new int[] {0, 1, 11, 12, 20, 99}) {
            new Run().type("n" + n + ";").fault(1);
        }
    }

    /** "YARDS .. (..; 6 at first)" */
    private static void yardsAtFirst() {
        new Run().due("count(0)", 6).due("bare(5, 0)", 0).refused("bare(6, 0)", BAD);
        Run.told("n10;t9 1a;").type("t5 1a;").due("town()", 1).due("count(0)", 6).due("now(2)", 31);
        Run.told("n2;").type(" ").due("town()", 0).due("count(0)", 6).due("now(2)", 63);
    }

    /** "INSULTS are a to f (0 .. 5)": a STATUE's. */
    private static void insultsOfStatues() {
        for (char c = 'a'; c <= 'z'; c++) {
            if (c <= 'f') {
                Run.told("t0 1" + c + ";").due("statue(0, 2)", c - 'a');
            } else {
                new Run().type("t0 1" + c + ";").fault(4);
            }
        }
    }

    /** "INSULTS are a to f (0 .. 5)": those that wrong one, wherever they are in the row. */
    private static void insultsOfPeople() {
        for (char c = 'a'; c <= 'z'; c++) {
            if (c <= 'f') {
                Run.told("p0 1 0" + c + ";").due("one(0, 3)", 1 << (c - 'a'));
            } else {
                new Run().type("p0 1 0" + c + ";").fault(6);
                new Run().type("p0 1 0" + c + "bcdef;").fault(6);
                new Run().type("p0 1 0abc" + c + "ef;").fault(6);
                new Run().type("p0 1 0abcde" + c + ";").fault(6);
            }
        }
    }

    /** "STATUES 0 .. (6 at most)"; FAULT: "a seventh t". */
    private static void sixStatues() {
        String six = "n10;t9 1a;t8 2b;t7 3c;t6 4d;t5 5e;t4 6f;";
        Run run = Run.told(six).due("count(1)", 6);
        for (int s = 0; s < 6; s++) {
            run.due("statue(" + s + ", 0)", 9 - s).due("statue(" + s + ", 1)", s + 1).due("statue(" + s + ", 2)", s);
        }
        run.refused("statue(6, 0)", BAD);
        run.type(six + "t0 7a;").fault(six.length()).due("clear()", six.length() + 6);
        run.type(six + "t").fault(six.length()).due("clear()", six.length() + 1);
        run.type(six + "p0 1 0a;t0 7a;").fault(six.length() + 8);
        Run.told("t0 1a;").due("count(1)", 1).refused("statue(1, 0)", BAD);
        Run.told("p0 1 0a;").due("count(1)", 0).refused("statue(0, 0)", BAD);
    }

    /** "PEOPLE 0 .. (6 at most)"; FAULT: "a seventh .. p". */
    private static void sixPeople() {
        String six = "p0 1 0a;p1 2 1b;p2 3 2c;p3 4 3d;p4 5 0e;p5 6 1f;";
        Run run = Run.told(six).due("count(2)", 6).due("who()", 63);
        for (int p = 0; p < 6; p++) {
            run.due("one(" + p + ", 0)", p).due("one(" + p + ", 1)", p + 1).due("one(" + p + ", 2)", p % 4)
                .due("one(" + p + ", 3)", 1 << p);
        }
        run.refused("one(6, 0)", BAD);
        run.type(six + "p0 1 0a;").fault(six.length()).due("clear()", six.length() + 8);
        run.type(six + "p").fault(six.length()).due("clear()", six.length() + 1);
        run.type(six + "t0 7a; p0 1 0a;").fault(six.length() + 7);
        Run.told("p0 1 0a;").due("count(2)", 1).refused("one(1, 0)", BAD);
        Run.told("t0 1a;").due("count(2)", 0).refused("one(0, 0)", BAD);
    }

    /** "YARD (unlike ones)"; FAULT: "a YARD where one stands". */
    private static void unlikeYards() {
        for (int first = 0; first < 5; first++) {
            for (int second = first + 1; second < 6; second++) {
                StringBuilder text = new StringBuilder();
                for (int s = 0; s <= second; s++) {
                    text.append("t").append(s == second ? first : s).append(" 1a;");
                }
                new Run().type(text.toString()).fault(6 * second + 1);
            }
        }
        new Run().type("n2;t0 1a;t1 1a;t0 1a;").fault(16);
        Run.told("n2;t0 1a;t1 1a;").due("now(2)", 0).type("t0 1a;").due("town()", 1).due("now(2)", 62);
        Run.told("p0 1 0a;p0 1 0a;t0 1a;").due("one(0, 0)", 0).due("one(1, 0)", 0).due("statue(0, 0)", 0);
    }

    /** A STATUE's YARD: 0 .. as many as are told less 1; "a NUMBER beyond what it may be". */
    private static void yardsOfStatues() {
        for (int n = 2; n <= 10; n++) {
            String told = "n" + n + ";";
            Run.told(told + "t0 1a;t" + (n - 1) + " 1a;").due("statue(0, 0)", 0).due("statue(1, 0)", n - 1);
            new Run().type(told + "t" + n + " 1a;").fault(told.length() + 1);
            new Run().type(told + "t99 1a;").fault(told.length() + 1);
        }
        Run.told("t5 1a;").due("statue(0, 0)", 5);
        new Run().type("t6 1a;").fault(1);
        Run.told("n10;").type("t6 1a;").fault(1);
    }

    /** "HOME (a YARD)": one's. */
    private static void homes() {
        for (int n = 2; n <= 10; n++) {
            String told = "n" + n + ";";
            Run.told(told + "p0 1 0a;p" + (n - 1) + " 1 0a;").due("one(0, 0)", 0).due("one(1, 0)", n - 1);
            new Run().type(told + "p" + n + " 1 0a;").fault(told.length() + 1);
            new Run().type(told + "p99 1 0a;").fault(told.length() + 1);
        }
        Run.told("p5 1 0a;").due("one(0, 0)", 5);
        new Run().type("p6 1 0a;").fault(1);
        Run.told("n10;").type("p6 1 0a;").fault(1);
    }

    /** "WEIGHT (1 .. 30)" */
    private static void weights() {
        for (int weight = 0; weight <= 99; weight++) {
            String text = "t0 " + weight + "a;";
            if (weight >= 1 && weight <= 30) {
                Run.told(text).due("statue(0, 1)", weight);
            } else {
                new Run().type(text).fault(3);
            }
        }
    }

    /** "STRONG (1 .. 9)" */
    private static void strengths() {
        for (int strong = 0; strong <= 99; strong++) {
            String text = "p0 " + strong + " 0a;";
            if (strong >= 1 && strong <= 9) {
                Run.told(text).due("one(0, 1)", strong);
            } else {
                new Run().type(text).fault(3);
            }
        }
    }

    /** "CREDIT (0 .. 3)" */
    private static void credits() {
        for (int credit = 0; credit <= 99; credit++) {
            String text = "p0 1 " + credit + "a;";
            if (credit <= 3) {
                Run.told(text).due("one(0, 2)", credit);
            } else {
                new Run().type(text).fault(5);
            }
        }
    }

    /** "SIGHT (0 .. 3; 1 at first)" */
    private static void sights() {
        new Run().due("count(3)", 1);
        for (int sight = 0; sight <= 99; sight++) {
            if (sight <= 3) {
                Run.told("v" + sight + ";").due("count(3)", sight).due("town()", 0).due("count(3)", 1);
            } else {
                new Run().type("v" + sight + ";").fault(1);
            }
        }
    }

    /** "n N (YARDS; the first of all, if it is told)"; FAULT: "n behind another ITEM". */
    private static void yardsComeFirst() {
        for (String item : new String[] {"n6;", "t0 1a;", "p0 1 0a;", "v1;"}) {
            new Run().type(item + "n6;").fault(item.length());
            new Run().type(item + " n").fault(item.length() + 1);
        }
        Run.told("   n6;").due("count(0)", 6);
        Run.told("n3;t2 1a;p2 1 0a;v0;").due("count(0)", 3).type("n4;").due("town()", 1).due("count(0)", 4);
    }

    /** "v N (SIGHT; once at most)"; FAULT: "v again". */
    private static void sightOnce() {
        new Run().type("v1;v1;").fault(3);
        new Run().type("v0;v").fault(3);
        new Run().type("v0;t0 1a;p0 1 0a;v3;").fault(17);
        Run.told("n2;v3;").due("count(3)", 3);
        Run.told("t0 1a;v0;p0 1 0a;").due("count(3)", 0);
        Run.told("t0 1a;p0 1 0a;v2;").due("count(3)", 2).type("v3;").due("town()", 1).due("count(3)", 3);
    }

    /** "a row of 1 to 6 INSULTS"; "and one INSULT"; FAULT: "a row that is too long". */
    private static void rowsOfPeople() {
        new Run().type("p0 1 0;").fault(6);
        new Run().type("p0 1 0 ;").fault(7);
        for (int n = 1; n <= 6; n++) {
            Run.told("p0 1 0" + "abcdef".substring(0, n) + ";").due("one(0, 3)", (1 << n) - 1);
        }
        new Run().type("p0 1 0abcdefa;").fault(6);
        new Run().type("p0 1 0 " + "a".repeat(100) + ";").fault(7);
        new Run().type("p0 1 0ab cd;").fault(9);
        new Run().type("t0 1;").fault(4);
        Run.told("t0 1a;").due("statue(0, 2)", 0);
        new Run().type("t0 1ab;").fault(4);
        new Run().type("t0 1aa;").fault(4);
        new Run().type("t0 1abcdef;").fault(4);
        new Run().type("t0 1a b;").fault(6);
    }

    /** "one told twice: as it is" */
    private static void toldTwice() {
        for (int n = 1; n <= 6; n++) {
            Run.told("p0 1 0" + "f".repeat(n) + ";").due("one(0, 3)", 32);
        }
        new Run().type("p0 1 0fffffff;").fault(6);
        Run.told("p0 1 0abcabc;").due("one(0, 3)", 7);
        Run.told("t0 1a;p0 5 0aa;").calls("comes(0)").due("statue(0, 4)", 5);
    }

    private EdgeTownTest() {
    }
}
