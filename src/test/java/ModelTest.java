import java.util.Random;

/** All promises: made-up runs of 512 calls, each answer against the one of Model; the seeds are always the same. */
final class ModelTest {
    private static final int RUNS = 700;
    private static final int CALLS = 512;
    private static final int[] STRANGE = {-1, -2, 6, 7, 9, 10, 11, 31, 32, 33, 63, 64, 127, 128, 255, 256, 1000,
        Integer.MAX_VALUE, Integer.MIN_VALUE, Integer.MIN_VALUE + 1, -1000000};

    private final Random random;
    private final InsultStatues x = new InsultStatues();
    private final Model model = new Model();
    private final int run;
    private int left = CALLS;
    private boolean wrong = false;

    private ModelTest(int run) {
        this.run = run;
        random = new Random(run);
    }

    public static void main(String[] args) {
        for (int run = 0; run < RUNS; run++) {
            new ModelTest(run).play();
        }
        faultyTexts();
        Expect.end("ModelTest");
    }

    private void play() {
        while (left > 0 && !wrong) {
            int before = left;
            if (left == CALLS || random.nextInt(120) == 0) {
                tell(random.nextInt(4) == 0 ? spoiled(randomTown(random), random) : randomTown(random));
            } else if (random.nextInt(3) > 0) {
                deed();
            } else {
                question();
            }
            if (before == left) {
                throw new IllegalStateException("no call was made");
            }
        }
    }

    private void same(String call, long want, long got) {
        left--;
        if (!wrong) {
            Expect.due("run " + run + ", call " + (CALLS - left) + ": " + call, want, got);
            wrong = want != got;
        }
    }

    private void tell(String text) {
        for (int i = 0; i < text.length() && left > 0; i++) {
            int letter = text.charAt(i);
            same("type(" + letter + ")", model.type(letter), x.type(letter));
        }
        same("town() of '" + text + "'", model.town(), x.town());
        if (model.count(5) > 0) {
            same("clear()", model.clear(), x.clear());
        }
    }

    /** Mostly a number that may stand there, at times one that may not. */
    private int number(int bound) {
        return random.nextInt(25) == 0 ? STRANGE[random.nextInt(STRANGE.length)] : random.nextInt(bound);
    }

    private int aStatue() {
        return number(Math.max(1, model.count(1)));
    }

    private int anyone() {
        return number(Math.max(1, model.count(2)));
    }

    private void deed() {
        int p = anyone();
        int s = aStatue();
        int side = number(2);
        int image = number(2);
        switch (random.nextInt(16)) {
            case 0, 1, 2, 3, 4 -> same("comes(" + p + ")", model.comes(p), x.comes(p));
            case 5 -> same("goes(" + p + ")", model.goes(p), x.goes(p));
            case 6, 7 -> same("claims(" + p + ", " + s + ")", model.claims(p, s), x.claims(p, s));
            case 8, 9, 10, 11 -> same("pulls(" + s + ", " + side + ")", model.pulls(s, side), x.pulls(s, side));
            case 12 -> same("undo()", model.undo(), x.undo());
            case 13 -> same("sees(" + s + ", " + side + ")", model.sees(s, side), x.sees(s, side));
            case 14 -> {
                if (random.nextInt(3) == 0) {
                    same("forget()", model.forget(), x.forget());
                } else {
                    same("keep(" + image + ")", model.keep(image), x.keep(image));
                }
            }
            default -> {
                if (random.nextInt(2) == 0) {
                    same("back(" + image + ")", model.back(image), x.back(image));
                } else {
                    same("undo()", model.undo(), x.undo());
                }
            }
        }
    }

    private void question() {
        int p = anyone();
        int s = aStatue();
        int yard = number(model.count(0));
        int what = number(7);
        int kind = number(6);
        int away = number(11);
        int half = number(2);
        int set = number(1 << model.count(1));
        switch (random.nextInt(14)) {
            case 0 -> same("statue(" + s + ", " + what + ")", model.statue(s, what), x.statue(s, what));
            case 1 -> same("one(" + p + ", " + what + ")", model.one(p, what), x.one(p, what));
            case 2 -> same("now(" + what % 4 + ")", model.now(what % 4), x.now(what % 4));
            case 3 -> same("gather(" + set + ")", model.gather(set), x.gather(set));
            case 4, 5 -> same("bare(" + yard + ", " + half + ")", model.bare(yard, half), x.bare(yard, half));
            case 6 -> same("scale(" + p + ", " + s + ")", model.scale(p, s), x.scale(p, s));
            case 7 -> same("offends(" + s + ", " + yard + ")", model.offends(s, yard), x.offends(s, yard));
            case 8 -> same("odds(" + s + ", " + away + ", " + half + ")", model.odds(s, away, half), x.odds(s, away, half));
            case 9 -> same("who()", model.who(), x.who());
            case 10 -> same("show()", model.show(), x.show());
            case 11 -> same("rate(" + kind + ", " + s + ")", model.rate(kind, s), x.rate(kind, s));
            case 12 -> same("count(" + what + ")", model.count(what), x.count(what));
            default -> same("trace()", model.trace(), x.trace());
        }
    }

    private static String randomTown(Random random) {
        StringBuilder text = new StringBuilder();
        int yards = 6;
        if (random.nextInt(3) > 0) {
            yards = 2 + random.nextInt(9);
            text.append("n").append(yards).append(";");
        }
        int statues = Math.min(yards, random.nextInt(7));
        int people = random.nextInt(7);
        int free = (1 << yards) - 1;
        if (random.nextInt(2) == 0) {
            text.append("v").append(random.nextInt(4)).append(";");
        }
        int heaviest = random.nextInt(2) == 0 ? 30 : 9;
        while (statues + people > 0) {
            if (random.nextInt(statues + people) < statues) {
                int yard;
                do {
                    yard = random.nextInt(yards);
                } while ((free & 1 << yard) == 0);
                free &= ~(1 << yard);
                text.append("t").append(yard).append(' ').append(1 + random.nextInt(heaviest));
                text.append((char) ('a' + random.nextInt(6))).append(";");
                statues--;
            } else {
                text.append("p").append(random.nextInt(yards)).append(' ').append(1 + random.nextInt(9));
                text.append(' ').append(random.nextInt(4));
                for (int n = random.nextInt(6); n >= 0; n--) {
                    text.append((char) ('a' + random.nextInt(6)));
                }
                text.append(";");
                people--;
            }
        }
        return text.toString();
    }

    private static String spoiled(String text, Random random) {
        StringBuilder b = new StringBuilder(text);
        String signs = "nntpvabcdefgz0123456789;;  !A\u0000\u00ff";
        for (int n = 1 + random.nextInt(3); n > 0 && b.length() > 0; n--) {
            int at = random.nextInt(b.length());
            char sign = signs.charAt(random.nextInt(signs.length()));
            switch (random.nextInt(4)) {
                case 0 -> b.setCharAt(at, sign);
                case 1 -> b.insert(at, sign);
                case 2 -> b.deleteCharAt(at);
                default -> b.setLength(random.nextInt(3) == 0 ? at : b.length());
            }
        }
        return b.toString();
    }

    private static void faultyTexts() {
        Random random = new Random(4711);
        for (int i = 0; i < 30000; i++) {
            String text = spoiled(randomTown(random), random);
            InsultStatues y = new InsultStatues();
            Model m = new Model();
            Expect.type(y, text);
            for (int k = 0; k < text.length(); k++) {
                m.type(text.charAt(k));
            }
            Expect.due("town() of '" + text + "'", m.town(), y.town());
            Expect.due("letters behind it", m.count(5), y.count(5));
            Expect.due("YARDS behind it", m.count(0), y.count(0));
            Expect.due("STATUES behind it", m.count(1), y.count(1));
            Expect.due("PEOPLE behind it", m.count(2), y.count(2));
            Expect.due("SIGHT behind it", m.count(3), y.count(3));
        }
    }
}
