/** Yards, the statues in them, and the people who may pull at what insults them: see README.md. */
public final class InsultStatues {
    public static final int BAD = -1, STATE = -2, FULL = -3, NONE = -9;
    public static final int NO = -1000000;

    /** The most there may be of statues, of people, of insults and of what was seen. */
    private static final int MOST = 6;
    private static final int MOST_LETTERS = 150;
    private static final int MOST_KNOWN = 10;
    private static final int IMAGES = 2;
    private static final int KINDS = 6;
    private static final int TENTHS = 10;
    /** Numbers up to a million are divided some thirty times at most. */
    private static final int MOST_DIVISIONS = 100;
    private static final int DOWN = 0, UP = 1;
    private static final int[] FACTORIAL = {1, 1, 2, 6, 24, 120, 720};

    private final Reader reader;
    private Town told;
    private final Scene scene;
    private final Past past;
    private final Scene[] images;
    private final boolean[] kept;
    private final int[] seenStatue;
    private final int[] seenWronged;
    private int seen;
    private long traced;

    public InsultStatues() {
        reader = new Reader();
        told = new Town();
        scene = new Scene();
        past = new Past();
        images = new Scene[IMAGES];
        for (int i = 0; i < IMAGES; i++) {
            images[i] = new Scene();
        }
        kept = new boolean[IMAGES];
        seenStatue = new int[MOST];
        seenWronged = new int[MOST];
        seen = 0;
        traced = 0L;
    }

    // ---- the town

    public int type(int letter) {
        if (letter < 0 || letter > 255) {
            return BAD;
        }
        if (reader.letters >= MOST_LETTERS) {
            return FULL;
        }
        reader.addLetter(letter);
        return reader.letters;
    }

    public int clear() {
        int had = reader.letters;
        reader.letters = 0;
        return had;
    }

    public int town() {
        int answer = reader.readTown();
        if (answer >= 0) {
            told = reader.giveTown(told);
            beginAnew();
        }
        return answer;
    }

    private void beginAnew() {
        reader.letters = 0;
        scene.begin(told);
        past.lose();
        seen = 0;
        for (int i = 0; i < IMAGES; i++) {
            kept[i] = false;
        }
    }

    public int statue(int s, int what) {
        if (!told.hasStatue(s)) {
            return BAD;
        }
        switch (what) {
            case 0:
                return scene.yardOf[s];
            case 1:
                return told.weight[s];
            case 2:
                return told.insult[s];
            case 3:
                return wrongedBy(s);
            case 4:
                return pullAt(s);
            case 5:
                return offendedIn(s, scene.yardOf[s]);
            case 6:
                return placeOf(s);
            default:
                return BAD;
        }
    }

    public int one(int p, int what) {
        if (!told.hasOne(p)) {
            return BAD;
        }
        switch (what) {
            case 0:
                return told.home[p];
            case 1:
                return told.strong[p];
            case 2:
                return told.credit[p];
            case 3:
                return told.wrongs[p];
            case 4:
                return has(scene.come, p) ? 1 : 0;
            case 5:
                return scene.timesBelieved(p);
            default:
                return BAD;
        }
    }

    public int now(int what) {
        switch (what) {
            case 0:
                return scene.come;
            case 1:
                return moving();
            case 2:
                return emptyYards();
            case 3:
                return past.known;
            default:
                return BAD;
        }
    }

    // ---- what is done

    public int comes(int p) {
        if (!told.hasOne(p)) {
            return BAD;
        }
        if (has(scene.come, p)) {
            return STATE;
        }
        scene.come |= 1 << p;
        past.add(Past.COME, p, 0);
        return Integer.bitCount(scene.come);
    }

    public int goes(int p) {
        if (!told.hasOne(p)) {
            return BAD;
        }
        if (!has(scene.come, p)) {
            return STATE;
        }
        scene.come &= ~(1 << p);
        past.add(Past.GONE, p, 0);
        return Integer.bitCount(scene.come);
    }

    public int claims(int p, int s) {
        if (!told.hasOne(p) || !told.hasStatue(s)) {
            return BAD;
        }
        if (has(wrongedBy(s), p)) {
            return STATE;
        }
        if (scene.timesBelieved(p) >= told.credit[p]) {
            return FULL;
        }
        scene.claimed[s] |= 1 << p;
        past.add(Past.CLAIMED, s, p);
        return pullAt(s);
    }

    public int pulls(int s, int side) {
        if (!told.hasStatue(s) || !isSide(side)) {
            return BAD;
        }
        int from = scene.yardOf[s];
        int to = from + stepTo(side);
        if (!moves(s) || !told.hasYard(to) || statueIn(to) != NONE) {
            return STATE;
        }
        scene.yardOf[s] = to;
        past.add(Past.PULLED, s, from);
        return to;
    }

    public int undo() {
        if (past.known == 0) {
            return STATE;
        }
        past.takeBack(scene);
        return past.known;
    }

    // ---- who, how

    public int gather(int set) {
        if (set < 0 || set >= 1 << told.statues) {
            return BAD;
        }
        int best = NONE;
        for (int people = 0; people < 1 << told.people; people++) {
            boolean fewer = best == NONE || Integer.bitCount(people) < Integer.bitCount(best);
            if (fewer && allMoveBy(people, set)) {
                best = people;
            }
        }
        return best;
    }

    public int bare(int yard, int what) {
        if (!told.hasYard(yard) || what < 0 || what > 1) {
            return BAD;
        }
        int down = pullsToBare(yard, DOWN);
        int up = pullsToBare(yard, UP);
        int side = up != NONE && (down == NONE || up < down) ? UP : DOWN;
        int fewest = side == UP ? up : down;
        if (what == 0) {
            return fewest;
        }
        return fewest == NONE || fewest == 0 ? NONE : side;
    }

    public int scale(int p, int s) {
        if (!told.hasOne(p) || !told.hasStatue(s)) {
            return BAD;
        }
        int pullers = pullersAt(s);
        if (!has(pullers, p)) {
            return 0;
        }
        int others = pullers & ~(1 << p);
        int orders = 0;
        for (int ahead = 0; ahead < 1 << told.people; ahead++) {
            int missing = told.weight[s] - told.strengthOf(ahead);
            boolean turns = missing > 0 && missing <= told.strong[p];
            if (isWithin(ahead, others) && turns) {
                orders += ordersOf(ahead) * ordersOf(others & ~ahead);
            }
        }
        return orders;
    }

    public int offends(int s, int yard) {
        if (!told.hasStatue(s) || !told.hasYard(yard)) {
            return BAD;
        }
        return offendedIn(s, yard);
    }

    public int odds(int s, int x, int what) {
        if (!told.hasStatue(s) || x < 0 || x > TENTHS || what < 0 || what > 1) {
            return BAD;
        }
        int pullers = pullersAt(s);
        int upper = chancesToMove(s, pullers, x);
        int lower = power(TENTHS, Integer.bitCount(pullers));
        int common = commonDivisor(upper, lower);
        if (common == 0) {
            return NONE;
        }
        return what == 0 ? upper / common : lower / common;
    }

    // ---- who it was

    public int sees(int s, int wronged) {
        if (!told.hasStatue(s) || wronged < 0 || wronged > 1) {
            return BAD;
        }
        if (seen >= MOST) {
            return FULL;
        }
        seenStatue[seen] = s;
        seenWronged[seen] = wronged;
        seen++;
        return seen;
    }

    public int forget() {
        int had = seen;
        seen = 0;
        return had;
    }

    public int who() {
        return stillPossible();
    }

    public int show() {
        int possible = stillPossible();
        if (Integer.bitCount(possible) <= 1) {
            return NONE;
        }
        int best = NONE;
        int smallest = MOST + 1;
        for (int s = 0; s < told.statues; s++) {
            int wronged = Integer.bitCount(possible & wrongedBy(s));
            int greater = Math.max(wronged, Integer.bitCount(possible) - wronged);
            if (greater < smallest) {
                smallest = greater;
                best = s;
            }
        }
        return best;
    }

    // ---- kinds, images

    public int rate(int kind, int s) {
        if (kind < 0 || kind >= KINDS || !told.hasStatue(s)) {
            return NO;
        }
        switch (kind) {
            case 1:
                return asGeneral(s);
            case 2:
                return asPoet(s);
            case 3:
                return asHorse(s);
            case 4:
                return asSaint(s);
            case 5:
                return asGirl(s);
            default:
                return asStatue(s);
        }
    }

    public int keep(int image) {
        if (!isImage(image)) {
            return BAD;
        }
        images[image].copyFrom(scene);
        kept[image] = true;
        return Integer.bitCount(scene.come);
    }

    public int back(int image) {
        if (!isImage(image)) {
            return BAD;
        }
        if (!kept[image]) {
            return STATE;
        }
        scene.copyFrom(images[image]);
        past.lose();
        return Integer.bitCount(scene.come);
    }

    public int count(int what) {
        switch (what) {
            case 0:
                return told.yards;
            case 1:
                return told.statues;
            case 2:
                return told.people;
            case 3:
                return told.sight;
            case 4:
                return seen;
            case 5:
                return reader.letters;
            default:
                return BAD;
        }
    }

    public long trace() {
        return traced;
    }

    // ---- what follows from things as they are now

    private int wrongedBy(int s) {
        return told.insulted[s] | scene.claimed[s];
    }

    private int pullersAt(int s) {
        return wrongedBy(s) & scene.come;
    }

    private int pullAt(int s) {
        return told.strengthOf(pullersAt(s));
    }

    private boolean moves(int s) {
        return pullAt(s) >= told.weight[s];
    }

    private int moving() {
        int set = 0;
        for (int s = 0; s < told.statues; s++) {
            if (moves(s)) {
                set |= 1 << s;
            }
        }
        return set;
    }

    private boolean allMoveBy(int people, int set) {
        for (int s = 0; s < told.statues; s++) {
            int pull = told.strengthOf(people & wrongedBy(s));
            if (has(set, s) && pull < told.weight[s]) {
                return false;
            }
        }
        return true;
    }

    private int statueIn(int yard) {
        for (int s = 0; s < told.statues; s++) {
            if (scene.yardOf[s] == yard) {
                return s;
            }
        }
        return NONE;
    }

    private int emptyYards() {
        int set = 0;
        for (int yard = 0; yard < told.yards; yard++) {
            if (statueIn(yard) == NONE) {
                set |= 1 << yard;
            }
        }
        return set;
    }

    private int pullsToBare(int yard, int side) {
        for (int pulled = 0; pulled < told.yards; pulled++) {
            int there = yard + pulled * stepTo(side);
            if (!told.hasYard(there)) {
                return NONE;
            }
            int s = statueIn(there);
            if (s == NONE) {
                return pulled;
            }
            if (!moves(s)) {
                return NONE;
            }
        }
        return NONE;
    }

    private int offendedIn(int s, int yard) {
        int wronged = wrongedBy(s);
        int offended = 0;
        for (int p = 0; p < told.people; p++) {
            if (has(wronged, p) && Math.abs(told.home[p] - yard) <= told.sight) {
                offended++;
            }
        }
        return offended;
    }

    private int placeOf(int s) {
        int best = scene.yardOf[s];
        int fewest = MOST + 1;
        for (int yard = 0; yard < told.yards; yard++) {
            int there = statueIn(yard);
            int offended = offendedIn(s, yard);
            if ((there == NONE || there == s) && offended < fewest) {
                fewest = offended;
                best = yard;
            }
        }
        return best;
    }

    /** Of all 10-to-the-pullers equal chances, those in which enough of the pullers come. */
    private int chancesToMove(int s, int pullers, int x) {
        int chances = 0;
        for (int there = 0; there < 1 << told.people; there++) {
            if (isWithin(there, pullers) && told.strengthOf(there) >= told.weight[s]) {
                int away = Integer.bitCount(pullers & ~there);
                chances += power(TENTHS - x, Integer.bitCount(there)) * power(x, away);
            }
        }
        return chances;
    }

    private int stillPossible() {
        int possible = (1 << told.people) - 1;
        for (int i = 0; i < seen; i++) {
            int wronged = wrongedBy(seenStatue[i]);
            possible &= seenWronged[i] == 1 ? wronged : ~wronged;
        }
        return possible;
    }

    // ---- the bodies of the kinds: each calls the one above it once

    private int asStatue(int s) {
        traced += 1L;
        return told.weight[s];
    }

    private int asGeneral(int s) {
        traced += 10L;
        return asStatue(s) + scene.yardOf[s];
    }

    private int asPoet(int s) {
        traced += 100L;
        return asStatue(s) - pullAt(s);
    }

    private int asHorse(int s) {
        traced += 1000L;
        return 2 * asGeneral(s);
    }

    private int asSaint(int s) {
        traced += 10000L;
        return asPoet(s) + s;
    }

    private int asGirl(int s) {
        traced += 100000L;
        return asStatue(s) + Integer.bitCount(wrongedBy(s));
    }

    // ---- sets, sides, numbers

    private static boolean has(int set, int member) {
        return ((set >> member) & 1) == 1;
    }

    private static boolean isWithin(int set, int whole) {
        return (set & ~whole) == 0;
    }

    private static boolean isSide(int side) {
        return side == DOWN || side == UP;
    }

    private static int stepTo(int side) {
        return side == UP ? 1 : -1;
    }

    private static boolean isImage(int image) {
        return image >= 0 && image < IMAGES;
    }

    private static int ordersOf(int set) {
        int members = Integer.bitCount(set);
        return members < FACTORIAL.length ? FACTORIAL[members] : 0;
    }

    private static int power(int base, int times) {
        int product = 1;
        for (int i = 0; i < times; i++) {
            product *= base;
        }
        return product;
    }

    private static int commonDivisor(int a, int b) {
        int greater = a;
        int rest = b;
        for (int step = 0; step < MOST_DIVISIONS && rest > 0; step++) {
            int next = greater % rest;
            greater = rest;
            rest = next;
        }
        return greater;
    }

    /** What a text tells: it stays so until the next one is read. */
    private static final class Town {
        private static final int YARDS_AT_FIRST = 6;
        private static final int SIGHT_AT_FIRST = 1;

        int yards;
        int sight;
        int statues;
        int people;
        final int[] stands = new int[MOST];
        final int[] weight = new int[MOST];
        final int[] insult = new int[MOST];
        final int[] home = new int[MOST];
        final int[] strong = new int[MOST];
        final int[] credit = new int[MOST];
        final int[] wrongs = new int[MOST];
        /** For each statue those whom its insult wrongs. */
        final int[] insulted = new int[MOST];

        Town() {
            empty();
        }

        void empty() {
            yards = YARDS_AT_FIRST;
            sight = SIGHT_AT_FIRST;
            statues = 0;
            people = 0;
        }

        boolean hasStatue(int s) {
            return s >= 0 && s < statues;
        }

        boolean hasOne(int p) {
            return p >= 0 && p < people;
        }

        boolean hasYard(int yard) {
            return yard >= 0 && yard < yards;
        }

        boolean isTaken(int yard) {
            for (int s = 0; s < statues; s++) {
                if (stands[s] == yard) {
                    return true;
                }
            }
            return false;
        }

        void addStatue(int yard, int itsWeight, int itsInsult) {
            if (statues < MOST) {
                stands[statues] = yard;
                weight[statues] = itsWeight;
                insult[statues] = itsInsult;
                statues++;
            }
        }

        void addOne(int hisHome, int hisStrength, int hisCredit, int hisWrongs) {
            if (people < MOST) {
                home[people] = hisHome;
                strong[people] = hisStrength;
                credit[people] = hisCredit;
                wrongs[people] = hisWrongs;
                people++;
            }
        }

        /** When all are told: a statue may be told ahead of those whom it insults. */
        void findInsulted() {
            for (int s = 0; s < statues; s++) {
                insulted[s] = 0;
                for (int p = 0; p < people; p++) {
                    if (has(wrongs[p], insult[s])) {
                        insulted[s] |= 1 << p;
                    }
                }
            }
        }

        int strengthOf(int set) {
            int strength = 0;
            for (int p = 0; p < people; p++) {
                if (has(set, p)) {
                    strength += strong[p];
                }
            }
            return strength;
        }
    }

    /** What is done in a town: just what an image keeps. */
    private static final class Scene {
        int come;
        final int[] yardOf = new int[MOST];
        /** For each statue those who claimed it and were believed. */
        final int[] claimed = new int[MOST];

        void begin(Town town) {
            come = 0;
            for (int s = 0; s < MOST; s++) {
                yardOf[s] = town.stands[s];
                claimed[s] = 0;
            }
        }

        void copyFrom(Scene other) {
            come = other.come;
            for (int s = 0; s < MOST; s++) {
                yardOf[s] = other.yardOf[s];
                claimed[s] = other.claimed[s];
            }
        }

        int timesBelieved(int p) {
            int times = 0;
            for (int s = 0; s < MOST; s++) {
                if (has(claimed[s], p)) {
                    times++;
                }
            }
            return times;
        }
    }

    /** The latest deeds, the oldest of those known at 0. */
    private static final class Past {
        static final int COME = 0, GONE = 1, CLAIMED = 2, PULLED = 3;

        int known;
        private final int[] deed = new int[MOST_KNOWN];
        /** Who came or went, or which statue was claimed or pulled. */
        private final int[] thing = new int[MOST_KNOWN];
        /** Who claimed, or the yard that the statue was pulled from. */
        private final int[] detail = new int[MOST_KNOWN];

        void lose() {
            known = 0;
        }

        void add(int itsDeed, int itsThing, int itsDetail) {
            if (known >= MOST_KNOWN) {
                loseOldest();
            }
            deed[known] = itsDeed;
            thing[known] = itsThing;
            detail[known] = itsDetail;
            known++;
        }

        private void loseOldest() {
            for (int i = 1; i < MOST_KNOWN; i++) {
                deed[i - 1] = deed[i];
                thing[i - 1] = thing[i];
                detail[i - 1] = detail[i];
            }
            known = MOST_KNOWN - 1;
        }

        void takeBack(Scene scene) {
            if (known <= 0) {
                return;
            }
            known--;
            int it = thing[known];
            switch (deed[known]) {
                case COME:
                    scene.come &= ~(1 << it);
                    break;
                case GONE:
                    scene.come |= 1 << it;
                    break;
                case CLAIMED:
                    scene.claimed[it] &= ~(1 << detail[known]);
                    break;
                default:
                    scene.yardOf[it] = detail[known];
                    break;
            }
        }
    }

    /** Holds the text and reads it; a read that fails leaves 'place' at the token that can't stand there. */
    private static final class Reader {
        private static final int END = 0, ROW = 1, NUMBER = 2, STOP = 3, ODD = 4;
        private static final int FAULT_AT_0 = -10;
        /** Stands for every number above 99, and for what is no number: it is beyond what any may be. */
        private static final int BEYOND = 100;

        int letters;
        private final int[] text = new int[MOST_LETTERS];
        /** The text is read into a town of its own, so that a fault leaves what was told as it is. */
        private Town town = new Town();
        private int items;
        private boolean sightTold;
        private int place;
        private int next;
        private int token;
        private int number;

        void addLetter(int letter) {
            if (letters < MOST_LETTERS) {
                text[letters] = letter;
                letters++;
            }
        }

        /** Hands out the town that was read; the old one is used for the next reading. */
        Town giveTown(Town old) {
            Town read = town;
            town = old;
            return read;
        }

        /** How many items, or -10 less the fault's place. */
        int readTown() {
            town.empty();
            sightTold = false;
            next = 0;
            for (items = 0; items <= letters; items++) {
                readToken();
                if (token == END) {
                    town.findInsulted();
                    return items;
                }
                if (!readItem()) {
                    return FAULT_AT_0 - place;
                }
            }
            return FAULT_AT_0 - letters;
        }

        private boolean readItem() {
            if (token != ROW || next - place != 1) {
                return false;
            }
            switch (text[place]) {
                case 'n':
                    return readYards();
                case 't':
                    return readStatue();
                case 'p':
                    return readOne();
                case 'v':
                    return readSight();
                default:
                    return false;
            }
        }

        private boolean readYards() {
            if (items > 0 || !readNumber(2, 10)) {
                return false;
            }
            town.yards = number;
            return readStop();
        }

        private boolean readSight() {
            if (sightTold || !readNumber(0, 3)) {
                return false;
            }
            town.sight = number;
            sightTold = true;
            return readStop();
        }

        private boolean readStatue() {
            if (town.statues >= MOST || !readNumber(0, town.yards - 1) || town.isTaken(number)) {
                return false;
            }
            int yard = number;
            if (!readNumber(1, 30)) {
                return false;
            }
            int weight = number;
            if (!readInsults(1)) {
                return false;
            }
            town.addStatue(yard, weight, text[place] - 'a');
            return readStop();
        }

        private boolean readOne() {
            if (town.people >= MOST || !readNumber(0, town.yards - 1)) {
                return false;
            }
            int home = number;
            if (!readNumber(1, 9)) {
                return false;
            }
            int strong = number;
            if (!readNumber(0, 3)) {
                return false;
            }
            int credit = number;
            if (!readInsults(MOST)) {
                return false;
            }
            town.addOne(home, strong, credit, insultsOfRow());
            return readStop();
        }

        private boolean readStop() {
            readToken();
            return token == STOP;
        }

        private boolean readNumber(int least, int most) {
            readToken();
            number = token == NUMBER ? numberOfToken() : BEYOND;
            return number >= least && number <= most;
        }

        private int numberOfToken() {
            if (text[place] == '0' && next - place > 1) {
                return BEYOND;
            }
            int value = 0;
            for (int i = place; i < next; i++) {
                value = Math.min(value * 10 + text[i] - '0', BEYOND);
            }
            return value;
        }

        private boolean readInsults(int most) {
            readToken();
            if (token != ROW || next - place > most) {
                return false;
            }
            for (int i = place; i < next; i++) {
                if (text[i] > 'f') {
                    return false;
                }
            }
            return true;
        }

        private int insultsOfRow() {
            int set = 0;
            for (int i = place; i < next; i++) {
                set |= 1 << (text[i] - 'a');
            }
            return set;
        }

        private void readToken() {
            while (next < letters && text[next] == ' ') {
                next++;
            }
            place = next;
            if (next >= letters) {
                token = END;
                return;
            }
            token = kindOf(text[next]);
            next++;
            boolean grows = token == ROW || token == NUMBER;
            while (grows && next < letters && kindOf(text[next]) == token) {
                next++;
            }
        }

        private static int kindOf(int letter) {
            if (letter >= 'a' && letter <= 'z') {
                return ROW;
            }
            if (letter >= '0' && letter <= '9') {
                return NUMBER;
            }
            return letter == ';' ? STOP : ODD;
        }
    }
}
