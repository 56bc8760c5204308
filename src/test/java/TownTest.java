/** Promises 1 to 4 and 25: a new object, the text, its reading and its faults, the counts. */
final class TownTest {
    public static void main(String[] args) {
        newObject();
        typing();
        clearing();
        items();
        faultsOfItems();
        faultsOfNumbers();
        faultsOfRows();
        faultsOfLetters();
        textThatEndsTooEarly();
        oldLettersDoNotCount();
        faultChangesNothing();
        readAnew();
        counts();
        Expect.end("TownTest");
    }

    private static void newObject() {
        InsultStatues x = new InsultStatues();
        Expect.due("YARDS at first", 6, x.count(0));
        Expect.due("STATUES at first", 0, x.count(1));
        Expect.due("PEOPLE at first", 0, x.count(2));
        Expect.due("SIGHT at first", 1, x.count(3));
        Expect.due("SEEN at first", 0, x.count(4));
        Expect.due("letters at first", 0, x.count(5));
        Expect.due("COME at first", 0, x.now(0));
        Expect.due("MOVE at first", 0, x.now(1));
        Expect.due("empty YARDS at first", 63, x.now(2));
        Expect.due("UNDONE at first", 0, x.now(3));
        Expect.due("trace at first", 0, x.trace());
        Expect.due("statue(0, 0) at first", InsultStatues.BAD, x.statue(0, 0));
        Expect.due("one(0, 0) at first", InsultStatues.BAD, x.one(0, 0));
        Expect.due("back(0) at first", InsultStatues.STATE, x.back(0));
    }

    private static void typing() {
        InsultStatues x = new InsultStatues();
        Expect.due("type(-1)", InsultStatues.BAD, x.type(-1));
        Expect.due("type(256)", InsultStatues.BAD, x.type(256));
        Expect.due("type(0)", 1, x.type(0));
        Expect.due("type(255)", 2, x.type(255));
        for (int i = 3; i <= 150; i++) {
            Expect.due("letter " + i, i, x.type(' '));
        }
        Expect.due("letter 151", InsultStatues.FULL, x.type(' '));
        Expect.due("a bad letter 151", InsultStatues.BAD, x.type(256));
        Expect.due("letters when full", 150, x.count(5));
        Expect.due("fault at 0", -10, x.town());
    }

    private static void clearing() {
        InsultStatues x = new InsultStatues();
        Expect.due("clear() of nothing", 0, x.clear());
        Expect.type(x, "n7;");
        Expect.due("clear()", 3, x.clear());
        Expect.due("clear() again", 0, x.clear());
        Expect.due("town() of a cleared text", 0, x.town());
        Expect.due("YARDS of it", 6, x.count(0));
        Expect.due("type behind clear()", 1, x.type('n'));
    }

    private static void items() {
        town("", 0);
        town("     ", 0);
        town("n2;", 1);
        town("n10;", 1);
        town("v0;", 1);
        town("v3;", 1);
        town("  n  9  ;  v  0  ;  t  8  30  f  ;  p  8  9  3  abcdef  ;  ", 4);
        town("t0 1a;p0 1 0f;", 2);
        town("n10;t9 30f;p9 9 3abcdef;", 3);
        town("t0 1 a;v1;p0 1 0 aa;t1 1 b;", 4);
        town("p0 1 0 aaaaaa;", 1);
        town("t5 1 a;", 1);
        town("p5 1 0 a;", 1);
        town("t0 1 a;t1 1 a;t2 1 a;t3 1 a;t4 1 a;t5 1 a;", 6);
        town("p0 1 0 a;p0 1 0 a;p0 1 0 a;p0 1 0 a;p0 1 0 a;p0 1 0 a;", 6);
        String full = "n10;v3;t0 30 a;t1 30 b;t2 30 c;t3 30 d;t4 30 e;t5 30 f;"
                + "p9 9 3 abcdef;p9 9 3 abcdef;p9 9 3 abcdef;p9 9 3 abcdef;p9 9 3 abcdef;p9 9 3 abcdef;";
        town(full, 14);
        town(full + " ".repeat(150 - full.length()), 14);
        InsultStatues x = Expect.told("p0 1 0 feef;");
        Expect.due("INSULTS told twice", 48, x.one(0, 3));
    }

    private static void faultsOfItems() {
        fault(";", 0);
        fault("5;", 0);
        fault("x1;", 0);
        fault("nn2;", 0);
        fault("tt", 0);
        fault("tz 1 1 a;", 0);
        fault("t0 1 a;az", 7);
        fault("  a", 2);
        fault("n2;;", 3);
        fault("n2;n2;", 3);
        fault("v1;n2;", 3);
        fault("t0 1 a;n6;", 7);
        fault("v1;v1;", 3);
        fault("n2;v1;t0 1 a;v1;", 13);
        fault("t0 1 a;t1 1 a;t2 1 a;t3 1 a;t4 1 a;t5 1 a;t", 42);
        fault("t0 1 a;t1 1 a;t2 1 a;t3 1 a;t4 1 a;t5 1 a; t0 1 a;", 43);
        fault("p0 1 0 a;p0 1 0 a;p0 1 0 a;p0 1 0 a;p0 1 0 a;p0 1 0 a;p", 54);
        fault("n;", 1);
        fault("n 2 3;", 4);
        fault("v1 a;", 3);
        fault("t;", 1);
        fault("t0;", 2);
        fault("t0 1;", 4);
        fault("t0 1 a b;", 7);
        fault("t0 1 a t1 1 a;", 7);
        fault("ta 1 1;", 0);
        fault("t a 1 1;", 2);
        fault("t0 a 1;", 3);
        fault("p0 1 0;", 6);
        fault("p0 1 a;", 5);
        fault("p0 1 0 a b;", 9);
        fault("p0 1 0 a 1;", 9);
    }

    private static void faultsOfNumbers() {
        fault("n1;", 1);
        fault("n0;", 1);
        fault("n11;", 1);
        fault("v4;", 1);
        fault("t6 1 a;", 1);
        fault("n2;t2 1 a;", 4);
        fault("t0 0 a;", 3);
        fault("t0 31 a;", 3);
        fault("t0 1 a;t0 1 a;", 8);
        fault("t3 1 a;t0 1 a;t3 1 a;", 15);
        fault("p6 1 0 a;", 1);
        fault("p0 0 0 a;", 3);
        fault("p0 10 0 a;", 3);
        fault("p0 1 4 a;", 5);
        fault("n02;", 1);
        fault("n 00;", 2);
        fault("t00 1 a;", 1);
        fault("t0 01 a;", 3);
        fault("n100;", 1);
        fault("t0 100 a;", 3);
        fault("n4294967298;", 1);
        fault("n" + "2".repeat(140) + ";", 1);
        fault("v00000000001;", 1);
    }

    private static void faultsOfRows() {
        fault("t0 1 g;", 5);
        fault("t0 1 ab;", 5);
        fault("t0 1 aa;", 5);
        fault("t0 1 z;", 5);
        fault("p0 1 0 g;", 7);
        fault("p0 1 0 abcg;", 7);
        fault("p0 1 0 abcdefa;", 7);
        fault("p0 1 0 aaaaaaa;", 7);
    }

    private static void faultsOfLetters() {
        fault("N2;", 0);
        fault("n2,", 2);
        fault("n-2;", 1);
        fault("n2.", 2);
        fault("n\t2;", 1);
        fault("t0 1 A;", 5);
        fault("t0 1 a!;", 6);
        fault("t0 1 `;", 5);
        fault("t0 1 {;", 5);
        fault("n2;" + (char) 0, 3);
        fault("n2;" + (char) 255, 3);
        fault("n1!;", 1);
        fault("n2/", 2);
        fault("n2:", 2);
    }

    private static void textThatEndsTooEarly() {
        fault("n", 1);
        fault("n2", 2);
        fault("n2   ", 5);
        fault("t", 1);
        fault("t0", 2);
        fault("t0 ", 3);
        fault("t0 1", 4);
        fault("t0 1 a", 6);
        fault("p0 1 0", 6);
        fault("p0 1 0 abc", 10);
        fault("v", 1);
        fault("v1", 2);
        fault("n2;v1;p0 1 0 a", 14);
    }

    private static void oldLettersDoNotCount() {
        String[] texts = {"n", "n2", "t0 1", "t0 1 a", "p0 1 0", "p0 1 0 a", "p0 1 0 abc", "v1", "t0 1 a;", "n3;"};
        String[] old = {"z", "0", "9", ";", " ", "a", "!"};
        for (String text : texts) {
            for (String letter : old) {
                InsultStatues x = new InsultStatues();
                Expect.type(x, letter.repeat(20));
                x.clear();
                Expect.type(x, text);
                int want = text.endsWith(";") ? 1 : -10 - text.length();
                Expect.due("town() of '" + text + "' behind " + letter, want, x.town());
            }
        }
    }

    private static void faultChangesNothing() {
        InsultStatues x = Expect.told("n4;v2;t1 3 b;p3 4 2 ab;");
        x.comes(0);
        x.sees(0, 1);
        x.keep(1);
        Expect.type(x, "n9;v0;t0 9 c;p0 1 0 f;t0 1 a;");
        Expect.due("town() with a fault", -10 - 23, x.town());
        Expect.due("letters left", 29, x.count(5));
        Expect.due("YARDS left", 4, x.count(0));
        Expect.due("STATUES left", 1, x.count(1));
        Expect.due("PEOPLE left", 1, x.count(2));
        Expect.due("SIGHT left", 2, x.count(3));
        Expect.due("SEEN left", 1, x.count(4));
        Expect.due("COME left", 1, x.now(0));
        Expect.due("UNDONE left", 1, x.now(3));
        Expect.due("YARD left", 1, x.statue(0, 0));
        Expect.due("WEIGHT left", 3, x.statue(0, 1));
        Expect.due("INSULT left", 1, x.statue(0, 2));
        Expect.due("HOME left", 3, x.one(0, 0));
        Expect.due("STRONG left", 4, x.one(0, 1));
        Expect.due("CREDIT left", 2, x.one(0, 2));
        Expect.due("INSULTS left", 3, x.one(0, 3));
        Expect.due("the same fault again", -10 - 23, x.town());
        Expect.due("IMAGE left", 1, x.back(1));
    }

    private static void readAnew() {
        InsultStatues x = Expect.told("n4;v2;t1 3 b;t2 3 c;p3 4 2 ab;");
        x.comes(0);
        x.claims(0, 1);
        x.pulls(0, 0);
        x.sees(0, 1);
        x.keep(0);
        x.keep(1);
        x.rate(0, 0);
        Expect.type(x, "t3 1 c;t4 1 f;p0 1 1 a;");
        Expect.due("town() anew", 3, x.town());
        Expect.due("letters then", 0, x.count(5));
        Expect.due("YARDS as at first", 6, x.count(0));
        Expect.due("SIGHT as at first", 1, x.count(3));
        Expect.due("SEEN anew", 0, x.count(4));
        Expect.due("COME anew", 0, x.now(0));
        Expect.due("UNDONE anew", 0, x.now(3));
        Expect.due("undo() anew", InsultStatues.STATE, x.undo());
        Expect.due("YARD anew", 3, x.statue(0, 0));
        Expect.due("YARD anew", 4, x.statue(1, 0));
        Expect.due("WRONGED anew", 0, x.statue(1, 3));
        Expect.due("believed anew", 0, x.one(0, 5));
        Expect.due("back(0) anew", InsultStatues.STATE, x.back(0));
        Expect.due("back(1) anew", InsultStatues.STATE, x.back(1));
        Expect.due("THE TRACE goes on", 1, x.trace());
        Expect.due("town() of an empty text", 0, x.town());
        Expect.due("STATUES of it", 0, x.count(1));
        Expect.due("PEOPLE of it", 0, x.count(2));
        Expect.due("empty YARDS of it", 63, x.now(2));
    }

    private static void counts() {
        InsultStatues x = Expect.told("n9;v3;t1 3 b;t2 3 c;p3 4 2 ab;p3 4 2 ab;p3 4 2 ab;");
        x.sees(0, 0);
        x.type('n');
        int[] want = {9, 2, 3, 3, 1, 1};
        for (int what = 0; what < want.length; what++) {
            Expect.due("count(" + what + ")", want[what], x.count(what));
        }
        Expect.due("count(-1)", InsultStatues.BAD, x.count(-1));
        Expect.due("count(6)", InsultStatues.BAD, x.count(6));
    }

    private static void town(String text, int items) {
        InsultStatues x = new InsultStatues();
        Expect.type(x, text);
        Expect.due("town() of '" + text + "'", items, x.town());
        Expect.due("letters behind '" + text + "'", 0, x.count(5));
    }

    private static void fault(String text, int place) {
        InsultStatues x = new InsultStatues();
        Expect.type(x, text);
        Expect.due("town() of '" + text + "'", -10 - place, x.town());
        Expect.due("letters behind '" + text + "'", text.length(), x.clear());
    }
}
