/** What every test of the project uses: it tells a town, and counts the answers that are not as due. */
final class Expect {
    private static int wrong = 0;
    private static int asked = 0;

    private Expect() {
    }

    static void due(String call, long want, long got) {
        asked++;
        if (got != want) {
            wrong++;
            System.out.println(call + " answered " + got + ", due is " + want);
        }
    }

    static void yes(String what, boolean holds) {
        due(what, 1, holds ? 1 : 0);
    }

    static void type(InsultStatues x, String text) {
        for (int i = 0; i < text.length(); i++) {
            x.type(text.charAt(i));
        }
    }

    /** A new object to which a text without a fault has been told. */
    static InsultStatues told(String text) {
        InsultStatues x = new InsultStatues();
        type(x, text);
        int items = x.town();
        if (items < 0) {
            due("town() of '" + text + "'", 0, items);
        }
        return x;
    }

    static void end(String name) {
        System.out.println(name + ": " + asked + " answers, " + wrong + " not as due");
        if (wrong != 0) {
            System.exit(1);
        }
    }
}
