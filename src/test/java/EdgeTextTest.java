/**
 * The boundary cases of THE TEXT itself (promises 2 to 4 and 25): how long it may be, what its tokens are, where it is
 * at fault, and that a text at fault changes nothing. A test for each sentence, told above it in the document's words.
 */
final class EdgeTextTest {
    private static final int BAD = InsultStatues.BAD, STATE = InsultStatues.STATE, FULL = InsultStatues.FULL;
    private static final String RICH = "n7;v2;t0 8a;t1 3b;t4 6c;p0 5 1ab;p2 4 3ac;p3 6 2c;";

    public static void main(String[] args) {
        letters();
        lettersAtMost();
        badAheadOfFull();
        fullTextAtFault();
        clearing();
        itemsCounted();
        mostItems();
        emptyText();
        blanks();
        otherBlanks();
        ends();
        beginnings();
        otherLetters();
        numbersTooGreat();
        numbersWithZerosAhead();
        endsTooEarly();
        fromLeftToRight();
        faultsAtBothEnds();
        faultChangesNothing();
        faultIsMended();
        readAnew();
        counts();
        Expect.end("EdgeTextTest");
    }

    /** "A letter (0 .. 255) comes to THE TEXT: how many it has. BAD" */
    private static void letters() {
        Run run = new Run();
        for (int letter = 0; letter < 150; letter++) {
            run.due("type(" + letter + ")", letter + 1);
        }
        run = new Run();
        for (int letter = 150; letter <= 255; letter++) {
            run.due("type(" + letter + ")", letter - 149);
        }
        new Run().beyond("type(#)", 0, 255, BAD).due("type(0)", 1);
        Run.told(RICH).type("n2").beyond("type(#)", 0, 255, BAD).due("type(59)", 3).due("town()", 1);
    }

    /** "a text (150 letters at most)"; type: "FULL." */
    private static void lettersAtMost() {
        Run run = Run.told("n3;");
        for (int n = 1; n <= 150; n++) {
            run.due("type(32)", n);
        }
        run.refused("type(32)", FULL).refused("type(0)", FULL).refused("type(255)", FULL).due("count(5)", 150);
        run.due("clear()", 150).due("type(118)", 1);
    }

    /** "the first of these: BAD .., FULL": a letter that is none, when there is no room either. */
    private static void badAheadOfFull() {
        new Run().type(" ".repeat(150)).refused("type(256)", BAD).refused("type(-1)", BAD).refused("type(1)", FULL);
    }

    /** "-10 less FAULT: nothing changes": a full text that is at fault stays full. */
    private static void fullTextAtFault() {
        new Run().type(" ".repeat(149) + "x").fault(149).refused("type(32)", FULL).due("clear()", 150);
        new Run().type("v1;" + " ".repeat(147)).due("town()", 1).due("count(5)", 0).due("type(32)", 1);
    }

    /** "THE TEXT is empty: how many letters it had." */
    private static void clearing() {
        new Run().due("clear()", 0).due("type(7)", 1).due("clear()", 1).due("clear()", 0);
        new Run().type("x".repeat(150)).due("clear()", 150).due("count(5)", 0).due("town()", 0);
        Run.told(RICH).calls("comes(0)", "sees(0, 1)", "keep(1)").refused("clear()", 0);
        new Run().type("n2;").due("clear()", 3).type("v2;").due("town()", 1).due("count(0)", 6).due("count(3)", 2);
    }

    /** "THE TEXT tells all anew, and is empty then: how many ITEMS." */
    private static void itemsCounted() {
        String[] items = {"n10;", "v3;", "t0 1a;", "p0 1 0a;", "t9 30f;", "p9 9 3abcdef;"};
        StringBuilder text = new StringBuilder();
        for (int n = 1; n <= items.length; n++) {
            text.append(items[n - 1]);
            new Run().type(text.toString()).due("town()", n).due("count(5)", 0);
            new Run().type(text + "  ").due("town()", n).due("count(5)", 0);
        }
    }

    /** Six STATUES, six of PEOPLE, n and v: no text tells more, and 150 letters are enough for it. */
    private static void mostItems() {
        String most = "n10;v3;t0 30a;t1 30b;t2 30c;t3 30d;t4 30e;t9 30f;"
            + "p9 9 3abcdef;p9 9 3abcdef;p9 9 3abcdef;p9 9 3abcdef;p9 9 3abcdef;p9 9 3abcdef;";
        Run run = new Run().type(most + " ".repeat(150 - most.length())).due("count(5)", 150).due("town()", 14);
        run.due("count(0)", 10).due("count(1)", 6).due("count(2)", 6).due("count(3)", 3).due("count(5)", 0);
        for (int i = 0; i < 6; i++) {
            run.due("statue(" + i + ", 1)", 30).due("statue(" + i + ", 2)", i).due("statue(" + i + ", 3)", 63);
            run.due("one(" + i + ", 0)", 9).due("one(" + i + ", 1)", 9).due("one(" + i + ", 2)", 3);
            run.due("one(" + i + ", 3)", 63);
        }
    }

    /** Nothing there at all: no ITEMS, and all is as at first. */
    private static void emptyText() {
        for (String text : new String[] {"", " ", " ".repeat(150)}) {
            Run.told(RICH).calls("comes(0)", "keep(0)", "sees(0, 1)").type(text).due("town()", 0).due("count(0)", 6)
                .due("count(1)", 0).due("count(2)", 0).due("count(3)", 1).due("count(4)", 0).due("count(5)", 0)
                .due("now(0)", 0).due("now(2)", 63).due("now(3)", 0).due("back(0)", STATE);
        }
    }

    /** "blanks (32) between TOKENS" */
    private static void blanks() {
        Run.told("   n   7   ;   t   6   30   f   ;   p   6   9   3   fa   ;   v   0   ;   ").due("count(0)", 7)
            .due("statue(0, 0)", 6).due("statue(0, 1)", 30).due("statue(0, 2)", 5).due("one(0, 0)", 6)
            .due("one(0, 1)", 9).due("one(0, 2)", 3).due("one(0, 3)", 33).due("count(3)", 0);
        Run.told("n7;t6 30f;p6 9 3fa;v0;").due("count(0)", 7).due("statue(0, 1)", 30).due("one(0, 3)", 33);
        new Run().type("t0 1 2a;").fault(5);
        new Run().type("v1 2;").fault(3);
        new Run().type("t01a;").fault(1);
        new Run().type("p01 0a;").fault(1);
        new Run().type("p0 10a;").fault(3);
        new Run().type("p0 1 0a b;").fault(8);
        new Run().type("t p0 1 0a;").fault(2);
        new Run().type("tp 0 1 0a;").fault(0);
    }

    /** "blanks (32)": no other letter is one. */
    private static void otherBlanks() {
        for (char c : new char[] {0, 8, 9, 10, 11, 12, 13, 28, 31, 133, 160}) {
            new Run().type("n2;" + c).fault(3);
            new Run().type("n" + c + "2;").fault(1);
            new Run().type("t0 1" + c + "a;").fault(4);
            new Run().type(c + "n2;").fault(0);
        }
    }

    /** "ITEMS, each ended by ;" */
    private static void ends() {
        new Run().type(";").fault(0);
        new Run().type("  ;").fault(2);
        new Run().type("n2;;").fault(3);
        new Run().type("n2 v1;").fault(3);
        new Run().type("v1 t0 1a;").fault(3);
        new Run().type("t0 1a t1 1a;").fault(6);
        new Run().type("t0 1a p0 1 0a;").fault(6);
        new Run().type("p0 1 0a p0 1 0a;").fault(8);
        new Run().type("p0 1 0a 1;").fault(8);
        new Run().type("n2;n;").fault(3);
        new Run().type("n;").fault(1);
        new Run().type("v;").fault(1);
        new Run().type("t;").fault(1);
        new Run().type("t0;").fault(2);
        new Run().type("t0 1;").fault(4);
        new Run().type("p;").fault(1);
        new Run().type("p0;").fault(2);
        new Run().type("p0 1;").fault(4);
        new Run().type("p0 1 0;").fault(6);
    }

    /** "(n, t, p, v alone begin ITEMS.)" */
    private static void beginnings() {
        for (char c = 'a'; c <= 'z'; c++) {
            if ("ntpv".indexOf(c) < 0) {
                new Run().type(c + "0 1a;").fault(0);
                new Run().type("v0;" + c + "0 1a;").fault(3);
            } else {
                new Run().type(c + "z 0 1 0a;").fault(0);
                new Run().type(c + "" + c).fault(0);
                new Run().type(" a" + c).fault(1);
            }
        }
        for (char c = '0'; c <= '9'; c++) {
            new Run().type(c + ";").fault(0);
            new Run().type("v1;" + c + "n").fault(3);
        }
    }

    /** FAULT "of any other letter .. that TOKEN's": wherever it stands. */
    private static void otherLetters() {
        for (char c = 0; c <= 255; c++) {
            boolean row = c >= 'a' && c <= 'z';
            boolean number = c >= '0' && c <= '9';
            if (row || number || c == ';' || c == ' ') {
                continue;
            }
            new Run().type("" + c).fault(0);
            new Run().type("v" + c + "1;").fault(1);
            new Run().type("v1" + c + ";").fault(2);
            new Run().type("v1;" + c).fault(3);
            new Run().type("p0 1 0a" + c + "b;").fault(7);
        }
    }

    /** FAULT of "a NUMBER above 99 .. that TOKEN's" */
    private static void numbersTooGreat() {
        String[] numbers = {"100", "101", "102", "110", "200", "255", "256", "258", "999", "1000", "65538",
            "2147483648", "4294967297", "4294967298", "18446744073709551617", "1" + "0".repeat(120) + "2"};
        for (String number : numbers) {
            new Run().type("n" + number + ";").fault(1);
            new Run().type(" v  " + number + ";").fault(4);
            new Run().type("t" + number + " 1a;").fault(1);
            new Run().type("t0 " + number + "a;").fault(3);
            new Run().type("p" + number + " 1 0a;").fault(1);
            new Run().type("p0 " + number + " 0a;").fault(3);
            new Run().type("p0 1 " + number + "a;").fault(5);
        }
    }

    /** FAULT of "a NUMBER .. with a 0 ahead of others, that TOKEN's"; 0 alone is one. */
    private static void numbersWithZerosAhead() {
        for (String number : new String[] {"00", "01", "02", "03", "000", "001", "0000000001", "010"}) {
            new Run().type("n" + number + ";").fault(1);
            new Run().type("v" + number + ";").fault(1);
            new Run().type("t" + number + " 1a;").fault(1);
            new Run().type("t0 " + number + "a;").fault(3);
            new Run().type("p" + number + " 1 0a;").fault(1);
            new Run().type("p0 " + number + " 0a;").fault(3);
            new Run().type("p0 1 " + number + "a;").fault(5);
        }
        Run.told("v0;t0 10a;t1 20a;t2 30a;p0 1 0a;").due("count(3)", 0).due("statue(0, 1)", 10)
            .due("statue(1, 1)", 20).due("statue(2, 1)", 30).due("one(0, 2)", 0);
        Run.told("n10;").due("count(0)", 10);
    }

    /** FAULT: "the text's length, if it ends too early": each beginning of a text, with and without blanks behind. */
    private static void endsTooEarly() {
        String text = "n7;v2;t0 8a;p0 5 1ab; t 6 30 f ; p 6 9 3 abcdef ;";
        for (int n = 0; n <= text.length(); n++) {
            String told = text.substring(0, n);
            boolean whole = told.isBlank() || told.stripTrailing().endsWith(";");
            for (int blanks = 0; blanks <= 2; blanks++) {
                Run run = new Run().type(told + " ".repeat(blanks));
                if (whole) {
                    run.due("town()", told.chars().filter(c -> c == ';').count());
                } else {
                    run.fault(n + blanks);
                }
            }
        }
        new Run().type("n1").fault(1);
        new Run().type("t0 31").fault(3);
        new Run().type("p0 1 0abcdefa").fault(6);
        new Run().type("nt").fault(0);
    }

    /** "the first TOKEN that can't stand there": what is behind it does not matter. */
    private static void fromLeftToRight() {
        new Run().type("n1;!").fault(1);
        new Run().type("v1;;A").fault(3);
        new Run().type("t0 31g;").fault(3);
        new Run().type("t6 0g").fault(1);
        new Run().type("p6 0 4g").fault(1);
        new Run().type("p0 0 4g").fault(3);
        new Run().type("p0 1 4g").fault(5);
        new Run().type("x100;").fault(0);
        new Run().type("t0 1a;t0 0g;").fault(7);
        new Run().type("t0 1a;n1;").fault(6);
        new Run().type("v1;v9;").fault(3);
    }

    /** "-10 less FAULT": at the text's first letter, at its last, and behind 150. */
    private static void faultsAtBothEnds() {
        new Run().type("x").due("town()", -10);
        new Run().type("v1;" + " ".repeat(146) + "x").due("town()", -159);
        new Run().type("v1" + " ".repeat(148)).due("town()", -160);
        new Run().type("v" + " ".repeat(149)).due("town()", -160);
        new Run().type("v" + "1".repeat(149)).due("town()", -11);
    }

    /** "-10 less FAULT: nothing changes": each kind of fault, in a town where all there is has been done. */
    private static void faultChangesNothing() {
        String[] texts = {"x", "n9;n", "n9;v0;v", "n9;t8 1f;t8", "n9;t8 9f;p8 9 3f;t1 31", "n2;v3;t1 1f;p1 1 0f;!",
            "v0;t0 1f;t1 1f;t2 1f;t3 1f;t4 1f;t5 1f;t", "p0 9 0f;p0 9 0f;p0 9 0f;p0 9 0f;p0 9 0f;p0 9 0f;p"};
        int[] places = {0, 3, 6, 10, 20, 20, 39, 48};
        for (int i = 0; i < texts.length; i++) {
            Run.told(RICH).calls("comes(0)", "comes(2)", "keep(0)", "pulls(1, 1)", "claims(1, 1)", "keep(1)",
                "claims(0, 2)", "comes(1)", "goes(0)", "sees(0, 1)", "sees(1, 0)", "rate(4, 1)").type(texts[i])
                .fault(places[i]).fault(places[i]).due("count(5)", texts[i].length())
                .due("clear()", texts[i].length());
        }
    }

    /** "nothing changes": THE TEXT is still there, and goes on where it ended. */
    private static void faultIsMended() {
        new Run().type("n").fault(1).type("7").fault(2).type(";").due("town()", 1).due("count(0)", 7);
        new Run().type("t5 3").fault(4).type("0").fault(5).type("f").fault(6).type(" ").fault(7).type(";")
            .due("town()", 1).due("statue(0, 0)", 5).due("statue(0, 1)", 30).due("statue(0, 2)", 5);
        new Run().type("v1;v").fault(3).type("2;").fault(3).due("clear()", 6).type("v2;").due("town()", 1)
            .due("count(3)", 2);
    }

    /** "(Read anew: as told, nothing SEEN, IMAGES are gone.)"; of what was done nothing can be UNDONE then. */
    private static void readAnew() {
        Run.told(RICH).calls("comes(0)", "comes(2)", "keep(0)", "pulls(1, 1)", "claims(1, 1)", "claims(1, 2)",
            "keep(1)", "sees(0, 1)", "sees(1, 0)", "rate(0, 1)").type(RICH).due("town()", 8).due("now(0)", 0)
            .due("now(1)", 0).due("now(3)", 0).due("statue(0, 0)", 0).due("statue(1, 0)", 1).due("statue(2, 0)", 4)
            .due("statue(1, 3)", 1).due("statue(2, 3)", 6).due("one(1, 5)", 0).due("one(0, 4)", 0)
            .due("count(4)", 0).due("who()", 7).due("count(5)", 0).due("trace()", 1).refused("undo()", STATE)
            .refused("back(0)", STATE).refused("back(1)", STATE);
        fewerThanBefore();
    }

    /** "tells all anew": of those who were told before, nobody is left, however often it is read. */
    private static void fewerThanBefore() {
        Run run = Run.told("t0 1a;t1 1a;p0 1 0a;p0 1 0a;p0 1 0a;");
        for (int i = 0; i < 3; i++) {
            run.type("t0 1a;p0 1 0b;").due("town()", 2).due("statue(0, 3)", 0).due("statue(0, 5)", 0).due("who()", 1)
                .due("now(2)", 62).due("gather(1)", InsultStatues.NONE).refused("one(1, 0)", BAD)
                .refused("statue(1, 0)", BAD).refused("gather(2)", BAD);
        }
    }

    /** "0 YARDS, 1 STATUES, 2 PEOPLE, 3 SIGHT, 4 SEEN, 5 letters of THE TEXT. BAD." */
    private static void counts() {
        new Run().beyond("count(#)", 0, 5, BAD);
        Run.told(RICH).calls("sees(0, 1)", "sees(1, 0)").type("n2;n").due("count(0)", 7).due("count(1)", 3)
            .due("count(2)", 3).due("count(3)", 2).due("count(4)", 2).due("count(5)", 4)
            .beyond("count(#)", 0, 5, BAD);
    }

    private EdgeTextTest() {
    }
}
