/**
 * The boundary cases of promises 13 to 17: gather, bare, scale, offends, odds. A test for each sentence, told above
 * it in the document's words.
 */
final class EdgeHowTest {
    private static final int BAD = InsultStatues.BAD, NONE = InsultStatues.NONE;
    private static final String SIX = "p0 5 0a;p0 5 0a;p0 5 0a;p0 5 0a;p0 5 0a;p0 5 0a;";
    private static final String[] SIX_COME = {"comes(0)", "comes(1)", "comes(2)", "comes(3)", "comes(4)", "comes(5)"};

    public static void main(String[] args) {
        setsOfStatues();
        gatherForNone();
        gatherJustEnough();
        gatherWhoeverHasCome();
        gatherFewestAndLeast();
        gatherNone();
        badBares();
        bareWhenEmpty();
        bareToTheWalls();
        bareOfBothSides();
        bareIfEachMoves();
        bareToTheNextEmptyYard();
        badScales();
        scaleOfNobody();
        scaleOfOneAndOfSix();
        scaleByWeight();
        badOffences();
        sightOnEitherSide();
        offendsWhereOneStands();
        badOdds();
        oddsOfNobody();
        oddsAtBothEnds();
        oddsInLeastTerms();
        oddsByWeight();
        nothingIsChanged();
        Expect.end("EdgeHowTest");
    }

    /** gather: "BAD (others than STATUES in the set)": for each number of STATUES. */
    private static void setsOfStatues() {
        StringBuilder text = new StringBuilder("p0 1 0a;");
        for (int n = 0; n <= 6; n++) {
            int all = (1 << n) - 1;
            Run run = Run.told(text.toString()).due("gather(" + all + ")", n == 0 ? 0 : 1);
            run.beyond("gather(#)", 0, all, BAD).refused("gather(" + (all + 2) + ")", BAD);
            run.refused("gather(64)", BAD).refused("gather(1073741824)", BAD);
            text.append("t").append(n).append(" 1a;");
        }
    }

    /** "GATHER for a set of STATUES": of none, nobody must come. */
    private static void gatherForNone() {
        new Run().due("gather(0)", 0);
        Run.told("t0 30a;").due("gather(0)", 0).due("gather(1)", NONE);
        Run.told("t0 1a;p0 9 0a;").due("gather(0)", 0).calls("comes(0)").due("gather(0)", 0);
        Run.told(SIX).due("gather(0)", 0).refused("gather(1)", BAD);
    }

    /** "each of the set would MOVE": by just as much as WEIGHT, and not by less. */
    private static void gatherJustEnough() {
        Run.told("t0 30a;t1 29a;t2 26a;t3 25a;t4 1a;" + SIX).due("gather(1)", 63).due("gather(2)", 63)
            .due("gather(4)", 63).due("gather(8)", 31).due("gather(16)", 1).due("gather(31)", 63).due("gather(24)", 31);
        Run.told("t0 30a;p0 9 0a;p0 9 0a;p0 9 0a;p0 2 0a;").due("gather(1)", NONE);
        Run.told("t0 30a;p0 9 0a;p0 9 0a;p0 9 0a;p0 3 0a;").due("gather(1)", 15);
    }

    /** "whoever has COME"; "if just these had COME" */
    private static void gatherWhoeverHasCome() {
        Run.told("t0 9a;t1 3b;p0 5 1a;p0 4 1a;p0 9 1b;").due("gather(1)", 3).due("gather(2)", 4).due("gather(3)", 7)
            .calls("comes(0)", "comes(1)", "comes(2)").due("gather(1)", 3).due("gather(2)", 4).due("gather(3)", 7)
            .calls("claims(2, 0)").due("gather(1)", 4).due("gather(3)", 4).calls("goes(2)", "goes(1)")
            .due("gather(3)", 4).calls("undo()", "undo()", "undo()").due("gather(3)", 7);
    }

    /** "the fewest of PEOPLE (bits, of several sets the least ..)" */
    private static void gatherFewestAndLeast() {
        Run.told("t0 9a;p0 3 0a;p0 3 0a;p0 3 0a;p0 4 0a;p0 5 0a;p0 9 0a;").due("gather(1)", 32);
        Run.told("t0 9a;p0 3 0a;p0 3 0a;p0 3 0a;p0 4 0a;p0 5 0a;p0 5 0a;").due("gather(1)", 24);
        Run.told("t0 6a;p0 3 0a;p0 3 0a;p0 3 0a;p0 3 0a;p0 3 0a;p0 3 0a;").due("gather(1)", 3);
        Run.told("t0 6a;p0 6 0b;p0 6 0a;p0 6 0a;").due("gather(1)", 2);
        Run.told("t0 1a;t1 1b;p0 1 0a;p0 1 0b;p0 1 0ab;").due("gather(1)", 1).due("gather(2)", 2).due("gather(3)", 4);
    }

    /** gather: "NONE" */
    private static void gatherNone() {
        Run.told("t0 1a;").due("gather(1)", NONE);
        Run.told("t0 1a;t1 1b;p0 9 1b;").due("gather(1)", NONE).due("gather(2)", 1).due("gather(3)", NONE)
            .calls("claims(0, 0)").due("gather(3)", 1).calls("undo()").due("gather(3)", NONE);
        Run.told("t0 1a;t1 1a;t2 1a;t3 1a;t4 1a;t5 30a;p0 9 0a;p0 9 0a;p0 9 0a;").due("gather(31)", 1)
            .due("gather(32)", NONE).due("gather(63)", NONE);
    }

    /** bare: "how many (what = 0), SIDE (1) .. BAD" */
    private static void badBares() {
        new Run().beyond("bare(#, 0)", 0, 5, BAD).beyond("bare(0, #)", 0, 1, BAD);
        Run.told("n2;t0 1a;p0 1 0a;").calls("comes(0)").beyond("bare(#, 0)", 0, 1, BAD)
            .beyond("bare(#, 1)", 0, 1, BAD).beyond("bare(0, #)", 0, 1, BAD).beyond("bare(1, #)", 0, 1, BAD);
        Run.told("n10;").due("bare(9, 0)", 0).beyond("bare(#, 0)", 0, 9, BAD).refused("bare(10, 2)", BAD);
    }

    /** "0, if it is empty"; "SIDE: .. NONE, if none must be pulled" */
    private static void bareWhenEmpty() {
        Run run = Run.told("n10;t1 1a;t8 1a;p0 1 0a;");
        for (int come = 0; come <= 1; come++) {
            for (int yard = 0; yard < 10; yard++) {
                if (yard != 1 && yard != 8) {
                    run.due("bare(" + yard + ", 0)", 0).due("bare(" + yard + ", 1)", NONE);
                }
            }
            run.calls("comes(0)");
        }
        run.calls("pulls(0, 0)").due("bare(1, 0)", 0).due("bare(1, 1)", NONE).due("bare(0, 0)", 1)
            .due("bare(0, 1)", 1);
    }

    /** "to the next empty YARD to one side": none is behind the first and the last. */
    private static void bareToTheWalls() {
        bares("n2;t0 1a;p0 1 0a;", new int[][] {{1, 1}, {0, NONE}});
        bares("n2;t1 1a;p0 1 0a;", new int[][] {{0, NONE}, {1, 0}});
        bares("n2;t0 1a;t1 1a;p0 1 0a;", new int[][] {{NONE, NONE}, {NONE, NONE}});
        bares("n6;t0 1a;t1 1a;t2 1a;t3 1a;t4 1a;t5 1a;p0 1 0a;", new int[][] {{NONE, NONE}, {NONE, NONE},
            {NONE, NONE}, {NONE, NONE}, {NONE, NONE}, {NONE, NONE}});
        bares("n7;t0 1a;t1 1a;t2 1a;t3 1a;t4 1a;t5 1a;p0 1 0a;", new int[][] {{6, 1}, {5, 1}, {4, 1}, {3, 1},
            {2, 1}, {1, 1}, {0, NONE}});
        bares("n7;t6 1a;t1 1a;t2 1a;t3 1a;t4 1a;t5 1a;p0 1 0a;", new int[][] {{0, NONE}, {1, 0}, {2, 0}, {3, 0},
            {4, 0}, {5, 0}, {6, 0}});
        bares("n10;t9 1a;t8 1a;t0 1a;t1 1a;t2 1a;p0 1 0a;", new int[][] {{3, 1}, {2, 1}, {1, 1}, {0, NONE},
            {0, NONE}, {0, NONE}, {0, NONE}, {0, NONE}, {1, 0}, {2, 0}});
    }

    private static void bares(String text, int[][] want) {
        Run run = Run.told(text).calls("comes(0)");
        for (int yard = 0; yard < want.length; yard++) {
            run.due("bare(" + yard + ", 0)", want[yard][0]).due("bare(" + yard + ", 1)", want[yard][1]);
        }
        run.due("now(3)", 1);
    }

    /** "of both sides the fewer"; "SIDE: to which (0, 1; of both alike 0 ..)" */
    private static void bareOfBothSides() {
        bares("n10;t2 1a;t3 1a;t4 1a;t5 1a;t6 1a;t7 1a;p0 1 0a;", new int[][] {{0, NONE}, {0, NONE}, {1, 0},
            {2, 0}, {3, 0}, {3, 1}, {2, 1}, {1, 1}, {0, NONE}, {0, NONE}});
        bares("n7;t1 1a;t2 1a;t3 1a;t4 1a;t5 1a;p0 1 0a;", new int[][] {{0, NONE}, {1, 0}, {2, 0}, {3, 0}, {2, 1},
            {1, 1}, {0, NONE}});
        bares("n3;t1 1a;p0 1 0a;", new int[][] {{0, NONE}, {1, 0}, {0, NONE}});
    }

    /** "if each of them MOVES"; "(those who have COME pulling)"; SIDE: "NONE, if .. it can't be" */
    private static void bareIfEachMoves() {
        String row = "n7;t1 1a;t2 1b;t3 1c;t4 1d;t5 1e;p0 1 0a;p0 1 0b;p0 1 0c;p0 1 0d;p0 1 0e;";
        Run nobody = Run.told(row);
        for (int yard = 1; yard <= 5; yard++) {
            nobody.due("bare(" + yard + ", 0)", NONE).due("bare(" + yard + ", 1)", NONE);
        }
        int[][] want = {{3, 1}, {3, 1}, {NONE, NONE}, {3, 0}, {3, 0}};
        for (int missing = 0; missing < 5; missing++) {
            Run run = Run.told(row);
            for (int p = 0; p < 5; p++) {
                run.calls(p == missing ? "now(0)" : "comes(" + p + ")");
            }
            run.due("bare(3, 0)", want[missing][0]).due("bare(3, 1)", want[missing][1]);
        }
        Run.told("n3;t1 2a;p0 1 0a;p0 1 0a;").calls("comes(0)").due("bare(1, 0)", NONE).due("bare(1, 1)", NONE)
            .calls("comes(1)").due("bare(1, 0)", 1).due("bare(1, 1)", 0);
    }

    /** "from it to the next empty YARD": one behind it does not matter. */
    private static void bareToTheNextEmptyYard() {
        Run.told("n6;t0 30b;t2 1a;t3 1a;t5 30b;p0 1 0a;").calls("comes(0)").due("bare(2, 0)", 1).due("bare(2, 1)", 0)
            .due("bare(3, 0)", 1).due("bare(3, 1)", 1).due("bare(0, 0)", NONE).due("bare(5, 1)", NONE)
            .calls("pulls(1, 0)").due("bare(1, 0)", 1).due("bare(1, 1)", 1).due("bare(3, 0)", 1).due("bare(3, 1)", 0);
    }

    /** scale: "BAD." */
    private static void badScales() {
        Run.told("t0 1a;p0 1 0a;").beyond("scale(#, 0)", 0, 0, BAD).beyond("scale(0, #)", 0, 0, BAD);
        Run.told("t0 1a;t1 1a;t2 1a;t3 1a;t4 1a;t5 1a;" + SIX).calls(SIX_COME).beyond("scale(#, 5)", 0, 5, BAD)
            .beyond("scale(5, #)", 0, 5, BAD).refused("scale(6, 6)", BAD).due("scale(5, 5)", 120);
    }

    /** "those who have COME and are WRONGED by it take hold": the others never turn the scale. */
    private static void scaleOfNobody() {
        Run.told("t0 1a;t1 1b;p0 9 1a;p0 9 0b;").due("scale(0, 0)", 0).due("scale(1, 0)", 0).calls("comes(1)")
            .due("scale(0, 0)", 0).due("scale(1, 0)", 0).due("scale(1, 1)", 1).calls("comes(0)").due("scale(0, 0)", 1)
            .due("scale(0, 1)", 0).due("scale(1, 1)", 1).calls("claims(0, 1)").due("scale(0, 1)", 1)
            .due("scale(1, 1)", 1).calls("goes(1)").due("scale(0, 1)", 1).due("scale(1, 1)", 0);
    }

    /** "in how many of all orders (6! at most)" */
    private static void scaleOfOneAndOfSix() {
        Run.told("t0 9a;p0 9 0a;p0 1 0a;p0 1 0a;p0 1 0a;p0 1 0a;p0 1 0a;").calls(SIX_COME).due("scale(0, 0)", 720)
            .due("scale(1, 0)", 0).due("scale(5, 0)", 0);
        Run.told("t0 9a;p0 1 0a;p0 1 0a;p0 1 0a;p0 1 0a;p0 1 0a;p0 9 0a;").calls(SIX_COME).due("scale(5, 0)", 720)
            .due("scale(0, 0)", 0);
        int[] orders = {1, 1, 2, 6, 24, 120};
        Run run = Run.told("t0 1a;" + SIX);
        for (int p = 0; p < 6; p++) {
            run.calls("comes(" + p + ")").due("scale(0, 0)", orders[p]).due("scale(" + p + ", 0)", orders[p]);
        }
    }

    /** "it is he by whom PULL first is WEIGHT or more": by just as much, by one more, by one less. */
    private static void scaleByWeight() {
        int[] none = {0, 0, 0};
        int[] alike = {2, 2, 2};
        int[] mostlyTheLast = {1, 1, 4};
        int[][] wants = {alike, alike, alike, mostlyTheLast, alike, alike, mostlyTheLast, alike, alike, alike, none};
        for (int weight = 1; weight <= wants.length; weight++) {
            Run run = Run.told("t0 " + weight + "a;p0 3 0a;p0 3 0a;p0 4 0a;").calls("comes(0)", "comes(1)", "comes(2)");
            for (int p = 0; p < 3; p++) {
                run.due("scale(" + p + ", 0)", wants[weight - 1][p]);
            }
        }
        Run.told("t0 30a;" + SIX).calls(SIX_COME).due("scale(0, 0)", 120).due("scale(5, 0)", 120).calls("goes(3)")
            .due("scale(0, 0)", 0).due("scale(3, 0)", 0);
    }

    /** offends: "BAD." */
    private static void badOffences() {
        Run.told("n2;t0 1a;p0 1 0a;").beyond("offends(#, 0)", 0, 0, BAD).beyond("offends(0, #)", 0, 1, BAD);
        Run.told("n10;t0 1a;t1 1a;t2 1a;t3 1a;t4 1a;t5 1a;p0 1 0a;").beyond("offends(#, 9)", 0, 5, BAD)
            .beyond("offends(5, #)", 0, 9, BAD).refused("offends(6, 10)", BAD).due("offends(5, 9)", 0);
    }

    /** "whose HOME is SIGHT YARDS from there at most": just so far, and one farther, to both sides. */
    private static void sightOnEitherSide() {
        for (int sight = 0; sight <= 3; sight++) {
            for (int home = 0; home <= 9; home++) {
                Run run = Run.told("n10;v" + sight + ";t5 1a;p" + home + " 1 0a;p" + home + " 1 0b;");
                for (int yard = 0; yard <= 9; yard++) {
                    boolean near = yard >= home - sight && yard <= home + sight;
                    run.due("offends(0, " + yard + ")", near ? 1 : 0);
                }
                run.due("statue(0, 5)", home >= 5 - sight && home <= 5 + sight ? 1 : 0);
            }
        }
        Run.told("n4;t0 1a;p0 1 0a;").due("offends(0, 1)", 1).due("offends(0, 2)", 0);
    }

    /** "in a YARD (empty or not)"; "those who are WRONGED by it", whether they have COME or not. */
    private static void offendsWhereOneStands() {
        Run.told("n3;v0;t0 1a;t1 1b;p1 1 1a;p1 1 1b;p0 1 1b;").due("offends(0, 0)", 0).due("offends(0, 1)", 1)
            .due("offends(0, 2)", 0).due("offends(1, 0)", 1).due("offends(1, 1)", 1).calls("comes(0)")
            .due("offends(0, 1)", 1).calls("claims(1, 0)").due("offends(0, 1)", 2).calls("undo()")
            .due("offends(0, 1)", 1).due("statue(0, 0)", 0);
        Run.told("t0 1a;").due("offends(0, 0)", 0).due("offends(0, 5)", 0);
        Run.told("v3;t0 1a;" + SIX).due("offends(0, 3)", 6).due("offends(0, 4)", 0);
    }

    /** "ODDS by x (0 .. 10) for a STATUE"; "upper (what = 0), lower number (1) .. BAD" */
    private static void badOdds() {
        new Run().refused("odds(0, 0, 0)", BAD);
        Run.told("t0 1a;t1 1a;p0 1 0a;").calls("comes(0)").beyond("odds(#, 0, 0)", 0, 1, BAD)
            .beyond("odds(0, #, 0)", 0, 10, BAD).beyond("odds(0, #, 1)", 0, 10, BAD).beyond("odds(0, 10, #)", 0, 1, BAD)
            .refused("odds(2, 11, 2)", BAD);
    }

    /** "each who has COME": nobody, or nobody who is WRONGED, moves nothing. */
    private static void oddsOfNobody() {
        for (int x = 0; x <= 10; x++) {
            fraction(Run.told("t0 1a;"), 0, x, 0, 1);
            fraction(Run.told("t0 1a;p0 9 0a;"), 0, x, 0, 1);
            fraction(Run.told("t0 1a;p0 9 0b;").calls("comes(0)"), 0, x, 0, 1);
        }
    }

    private static void fraction(Run run, int s, int x, int upper, int lower) {
        run.due("odds(" + s + ", " + x + ", 0)", upper).due("odds(" + s + ", " + x + ", 1)", lower);
    }

    /** x = 0: all stay, and it MOVES or does not; x = 10: all stay away. */
    private static void oddsAtBothEnds() {
        Run six = Run.told("t0 30a;t1 1a;" + SIX).calls(SIX_COME);
        fraction(six, 0, 0, 1, 1);
        fraction(six, 0, 10, 0, 1);
        fraction(six, 1, 0, 1, 1);
        fraction(six, 1, 10, 0, 1);
        six.calls("goes(0)");
        fraction(six, 0, 0, 0, 1);
        fraction(six, 0, 10, 0, 1);
    }

    /** "in least terms": from one to six, a whole number of millionths or far less. */
    private static void oddsInLeastTerms() {
        int[][] all = {{9, 10}, {81, 100}, {729, 1000}, {6561, 10000}, {59049, 100000}, {531441, 1000000}};
        int[][] any = {{9, 10}, {99, 100}, {999, 1000}, {9999, 10000}, {99999, 100000}, {999999, 1000000}};
        for (int n = 1; n <= 6; n++) {
            Run run = Run.told("t0 " + 5 * n + "a;t1 5a;" + SIX);
            for (int p = 0; p < n; p++) {
                run.calls("comes(" + p + ")");
            }
            fraction(run, 0, 1, all[n - 1][0], all[n - 1][1]);
            fraction(run, 1, 1, any[n - 1][0], any[n - 1][1]);
            fraction(run, 0, 5, 1, 1 << n);
            fraction(run, 1, 5, (1 << n) - 1, 1 << n);
            fraction(run, 0, 9, 1, all[n - 1][1]);
        }
        int[][] one = {{1, 1}, {9, 10}, {4, 5}, {7, 10}, {3, 5}, {1, 2}, {2, 5}, {3, 10}, {1, 5}, {1, 10}, {0, 1}};
        for (int x = 0; x <= 10; x++) {
            Run run = Run.told("t0 9a;p0 9 0a;p0 9 0b;p0 9 0a;").calls("comes(0)", "comes(1)");
            fraction(run, 0, x, one[x][0], one[x][1]);
        }
    }

    /** "that it MOVES": by just as much as WEIGHT, not by one less. */
    private static void oddsByWeight() {
        int[][] want = {{3, 4}, {3, 4}, {1, 2}, {1, 4}, {1, 4}, {0, 1}};
        int[] weights = {1, 3, 4, 5, 7, 8};
        for (int i = 0; i < weights.length; i++) {
            Run run = Run.told("t0 " + weights[i] + "a;p0 3 0a;p0 4 0a;").calls("comes(0)", "comes(1)");
            fraction(run, 0, 5, want[i][0], want[i][1]);
        }
    }

    /** "(As things are NOW; nothing is changed.)" */
    private static void nothingIsChanged() {
        Run run = Run.told("n7;v2;t0 8a;t1 3b;t4 6c;p0 5 1ab;p2 4 3ac;p3 6 2c;").calls("comes(0)", "comes(1)",
            "keep(0)", "pulls(1, 1)", "claims(2, 0)", "sees(0, 1)", "rate(3, 0)").type("n2");
        run.refused("gather(1)", 3).refused("gather(7)", 5).refused("bare(0, 0)", 1).refused("bare(0, 1)", 1)
            .refused("bare(2, 1)", 0).refused("scale(0, 0)", 1).refused("scale(2, 0)", 0).refused("offends(0, 6)", 0)
            .refused("offends(0, 0)", 2).refused("odds(0, 5, 0)", 1).refused("odds(0, 5, 1)", 4)
            .refused("who()", 7).refused("show()", 1).refused("trace()", 1011).refused("count(5)", 2)
            .refused("now(2)", 106).refused("statue(0, 6)", 6).refused("one(2, 5)", 1);
    }

    private EdgeHowTest() {
    }
}
