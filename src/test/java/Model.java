import java.math.BigInteger;
import java.util.ArrayDeque;
import java.util.ArrayList;
import java.util.HashMap;
import java.util.HashSet;
import java.util.List;
import java.util.Map;
import java.util.Set;
import java.util.TreeSet;
import java.util.regex.Matcher;
import java.util.regex.Pattern;

/**
 * The same document read a second time, in other ways wherever there are some: whole states are kept for undo(),
 * orders are walked one by one, the fewest pulls are searched for, the text is cut by a pattern.
 */
final class Model {
    private record Statue(int weight, int insult) {
    }

    private record One(int home, int strong, int credit, Set<Integer> insults) {
    }

    private record Claim(int p, int s) {
    }

    private record State(List<Integer> yards, Set<Integer> come, Set<Claim> claims) {
    }

    private record Seen(int s, boolean wronged) {
    }

    private static final Pattern TOKEN = Pattern.compile("[a-z]+|[0-9]+|[^ ]", Pattern.DOTALL);

    private final StringBuilder text = new StringBuilder();
    private int yards = 6;
    private int sight = 1;
    private List<Statue> statues = new ArrayList<>();
    private List<One> people = new ArrayList<>();
    private State state = new State(List.of(), Set.of(), Set.of());
    private final ArrayDeque<State> past = new ArrayDeque<>();
    private final Map<Integer, State> images = new HashMap<>();
    private final List<Seen> seen = new ArrayList<>();
    private long trace = 0;

    // ---- the town

    int type(int letter) {
        if (letter < 0 || letter > 255) {
            return -1;
        }
        if (text.length() == 150) {
            return -3;
        }
        return text.append((char) letter).length();
    }

    int clear() {
        int had = text.length();
        text.setLength(0);
        return had;
    }

    private static final class Fault extends RuntimeException {
        private static final long serialVersionUID = 1L;
        final int place;

        Fault(int place) {
            this.place = place;
        }
    }

    int town() {
        List<String> tokens = new ArrayList<>();
        List<Integer> places = new ArrayList<>();
        Matcher m = TOKEN.matcher(text);
        while (m.find()) {
            tokens.add(m.group());
            places.add(m.start());
        }
        places.add(text.length());
        try {
            return readTokens(tokens, places);
        } catch (Fault fault) {
            return -10 - fault.place;
        }
    }

    private int readTokens(List<String> tokens, List<Integer> places) {
        int newYards = 6;
        int newSight = -1;
        List<Statue> newStatues = new ArrayList<>();
        List<Integer> stands = new ArrayList<>();
        List<One> newPeople = new ArrayList<>();
        int items = 0;
        int at = 0;
        while (at < tokens.size()) {
            int begin = at;
            switch (tokens.get(at++)) {
                case "n" -> {
                    must(items == 0, places.get(begin));
                    newYards = number(tokens, places, at++, 2, 10);
                }
                case "v" -> {
                    must(newSight < 0, places.get(begin));
                    newSight = number(tokens, places, at++, 0, 3);
                }
                case "t" -> {
                    must(newStatues.size() < 6, places.get(begin));
                    int yard = number(tokens, places, at++, 0, newYards - 1);
                    must(!stands.contains(yard), places.get(at - 1));
                    int weight = number(tokens, places, at++, 1, 30);
                    String row = row(tokens, places, at++, "[a-f]");
                    stands.add(yard);
                    newStatues.add(new Statue(weight, row.charAt(0) - 'a'));
                }
                case "p" -> {
                    must(newPeople.size() < 6, places.get(begin));
                    int home = number(tokens, places, at++, 0, newYards - 1);
                    int strong = number(tokens, places, at++, 1, 9);
                    int credit = number(tokens, places, at++, 0, 3);
                    Set<Integer> insults = new TreeSet<>();
                    row(tokens, places, at++, "[a-f]{1,6}").chars().forEach(c -> insults.add(c - 'a'));
                    newPeople.add(new One(home, strong, credit, insults));
                }
                default -> must(false, places.get(begin));
            }
            must(at < tokens.size() && tokens.get(at).equals(";"), places.get(at));
            at++;
            items++;
        }
        yards = newYards;
        sight = newSight < 0 ? 1 : newSight;
        statues = newStatues;
        people = newPeople;
        state = new State(stands, Set.of(), Set.of());
        past.clear();
        images.clear();
        seen.clear();
        text.setLength(0);
        return items;
    }

    private static void must(boolean holds, int place) {
        if (!holds) {
            throw new Fault(place);
        }
    }

    private static int number(List<String> tokens, List<Integer> places, int at, int least, int most) {
        must(at < tokens.size() && tokens.get(at).matches("0|[1-9][0-9]?"), places.get(at));
        int value = Integer.parseInt(tokens.get(at));
        must(value >= least && value <= most, places.get(at));
        return value;
    }

    private static String row(List<String> tokens, List<Integer> places, int at, String form) {
        must(at < tokens.size() && tokens.get(at).matches(form), places.get(at));
        return tokens.get(at);
    }

    // ---- what is asked

    private boolean noStatue(int s) {
        return s < 0 || s >= statues.size();
    }

    private boolean noOne(int p) {
        return p < 0 || p >= people.size();
    }

    private boolean wronged(int p, int s) {
        return people.get(p).insults().contains(statues.get(s).insult()) || state.claims().contains(new Claim(p, s));
    }

    private int pull(int s, Set<Integer> come) {
        int sum = 0;
        for (int p : come) {
            sum += wronged(p, s) ? people.get(p).strong() : 0;
        }
        return sum;
    }

    private boolean moves(int s, Set<Integer> come) {
        return pull(s, come) >= statues.get(s).weight();
    }

    private int bits(Iterable<Integer> set) {
        int bits = 0;
        for (int member : set) {
            bits += 1 << member;
        }
        return bits;
    }

    private Set<Integer> wrongedBy(int s) {
        Set<Integer> set = new TreeSet<>();
        for (int p = 0; p < people.size(); p++) {
            if (wronged(p, s)) {
                set.add(p);
            }
        }
        return set;
    }

    int statue(int s, int what) {
        if (noStatue(s) || what < 0 || what > 6) {
            return -1;
        }
        int yard = state.yards().get(s);
        int[] answers = {yard, statues.get(s).weight(), statues.get(s).insult(), bits(wrongedBy(s)),
            pull(s, state.come()), offends(s, yard), place(s)};
        return answers[what];
    }

    private int place(int s) {
        for (int fewest = 0; fewest <= 6; fewest++) {
            for (int yard = 0; yard < yards; yard++) {
                int there = state.yards().indexOf(yard);
                if ((there < 0 || there == s) && offends(s, yard) == fewest) {
                    return yard;
                }
            }
        }
        throw new IllegalStateException();
    }

    int one(int p, int what) {
        if (noOne(p) || what < 0 || what > 5) {
            return -1;
        }
        One one = people.get(p);
        int[] answers = {one.home(), one.strong(), one.credit(), bits(one.insults()),
            state.come().contains(p) ? 1 : 0, believed(p)};
        return answers[what];
    }

    private int believed(int p) {
        return (int) state.claims().stream().filter(c -> c.p() == p).count();
    }

    int now(int what) {
        switch (what) {
            case 0:
                return bits(state.come());
            case 1:
                int moving = 0;
                for (int s = 0; s < statues.size(); s++) {
                    moving += moves(s, state.come()) ? 1 << s : 0;
                }
                return moving;
            case 2:
                return (1 << yards) - 1 - bits(state.yards());
            case 3:
                return past.size();
            default:
                return -1;
        }
    }

    // ---- what is done

    private void become(State next) {
        past.addLast(state);
        if (past.size() > 10) {
            past.removeFirst();
        }
        state = next;
    }

    int comes(int p) {
        if (noOne(p)) {
            return -1;
        }
        Set<Integer> come = new TreeSet<>(state.come());
        if (!come.add(p)) {
            return -2;
        }
        become(new State(state.yards(), come, state.claims()));
        return come.size();
    }

    int goes(int p) {
        if (noOne(p)) {
            return -1;
        }
        Set<Integer> come = new TreeSet<>(state.come());
        if (!come.remove(p)) {
            return -2;
        }
        become(new State(state.yards(), come, state.claims()));
        return come.size();
    }

    int claims(int p, int s) {
        if (noOne(p) || noStatue(s)) {
            return -1;
        }
        if (wronged(p, s)) {
            return -2;
        }
        if (believed(p) >= people.get(p).credit()) {
            return -3;
        }
        Set<Claim> claims = new HashSet<>(state.claims());
        claims.add(new Claim(p, s));
        become(new State(state.yards(), state.come(), claims));
        return pull(s, state.come());
    }

    int pulls(int s, int side) {
        if (noStatue(s) || side < 0 || side > 1) {
            return -1;
        }
        State next = pulled(state, s, side);
        if (next == null) {
            return -2;
        }
        become(next);
        return next.yards().get(s);
    }

    private State pulled(State from, int s, int side) {
        int to = from.yards().get(s) + 2 * side - 1;
        if (!moves(s, from.come()) || to < 0 || to >= yards || from.yards().contains(to)) {
            return null;
        }
        List<Integer> then = new ArrayList<>(from.yards());
        then.set(s, to);
        return new State(then, from.come(), from.claims());
    }

    int undo() {
        if (past.isEmpty()) {
            return -2;
        }
        state = past.removeLast();
        return past.size();
    }

    // ---- who, how

    int gather(int set) {
        if (set < 0 || set >= 1 << statues.size()) {
            return -1;
        }
        for (int size = 0; size <= people.size(); size++) {
            for (int bits = 0; bits < 1 << people.size(); bits++) {
                if (Integer.bitCount(bits) == size && allMove(set, members(bits))) {
                    return bits;
                }
            }
        }
        return -9;
    }

    private static Set<Integer> members(int bits) {
        Set<Integer> set = new TreeSet<>();
        for (int i = 0; i < 31; i++) {
            if ((bits & 1 << i) != 0) {
                set.add(i);
            }
        }
        return set;
    }

    private boolean allMove(int set, Set<Integer> come) {
        return members(set).stream().allMatch(s -> moves(s, come));
    }

    /** By a search through all that pulls can bring about, not by the document's rows of statues. */
    int bare(int yard, int what) {
        if (yard < 0 || yard >= yards || what < 0 || what > 1) {
            return -1;
        }
        Map<List<Integer>, Integer> pulls = new HashMap<>();
        ArrayDeque<State> open = new ArrayDeque<>();
        open.add(state);
        pulls.put(state.yards(), 0);
        int fewest = -9;
        int side = -9;
        while (!open.isEmpty()) {
            State from = open.removeFirst();
            int made = pulls.get(from.yards());
            if (fewest >= 0 && made > fewest) {
                break;
            }
            if (!from.yards().contains(yard)) {
                fewest = made;
                if (made > 0) {
                    int stood = state.yards().indexOf(yard);
                    int went = from.yards().get(stood) > yard ? 1 : 0;
                    side = side < 0 ? went : Math.min(side, went);
                }
            }
            for (int s = 0; s < statues.size(); s++) {
                for (int to = 0; to <= 1; to++) {
                    State next = pulled(from, s, to);
                    if (next != null && pulls.putIfAbsent(next.yards(), made + 1) == null) {
                        open.addLast(next);
                    }
                }
            }
        }
        return what == 0 ? fewest : side;
    }

    int scale(int p, int s) {
        if (noOne(p) || noStatue(s)) {
            return -1;
        }
        List<Integer> waiting = new ArrayList<>(wrongedBy(s));
        waiting.retainAll(state.come());
        return orders(p, statues.get(s).weight(), new ArrayList<>(), waiting);
    }

    private int orders(int p, int weight, List<Integer> order, List<Integer> waiting) {
        if (waiting.isEmpty()) {
            int pull = 0;
            for (int q : order) {
                pull += people.get(q).strong();
                if (pull >= weight) {
                    return q == p ? 1 : 0;
                }
            }
            return 0;
        }
        int sum = 0;
        for (int q : waiting) {
            List<Integer> longer = new ArrayList<>(order);
            longer.add(q);
            List<Integer> fewer = new ArrayList<>(waiting);
            fewer.remove((Integer) q);
            sum += orders(p, weight, longer, fewer);
        }
        return sum;
    }

    int offends(int s, int yard) {
        if (noStatue(s) || yard < 0 || yard >= yards) {
            return -1;
        }
        int offended = 0;
        for (int p : wrongedBy(s)) {
            int home = people.get(p).home();
            offended += home >= yard - sight && home <= yard + sight ? 1 : 0;
        }
        return offended;
    }

    int odds(int s, int x, int what) {
        if (noStatue(s) || x < 0 || x > 10 || what < 0 || what > 1) {
            return -1;
        }
        BigInteger upper = chances(s, x, new ArrayList<>(state.come()), new TreeSet<>());
        BigInteger lower = BigInteger.TEN.pow(state.come().size());
        BigInteger common = upper.gcd(lower);
        return (what == 0 ? upper : lower).divide(common).intValueExact();
    }

    /** Of all who have come, wronged or not, as the document says it. */
    private BigInteger chances(int s, int x, List<Integer> open, Set<Integer> come) {
        if (open.isEmpty()) {
            return moves(s, come) ? BigInteger.ONE : BigInteger.ZERO;
        }
        List<Integer> rest = open.subList(1, open.size());
        Set<Integer> more = new TreeSet<>(come);
        more.add(open.get(0));
        BigInteger away = chances(s, x, rest, come).multiply(BigInteger.valueOf(x));
        return away.add(chances(s, x, rest, more).multiply(BigInteger.valueOf(10 - x)));
    }

    // ---- who it was

    int sees(int s, int wronged) {
        if (noStatue(s) || wronged < 0 || wronged > 1) {
            return -1;
        }
        if (seen.size() == 6) {
            return -3;
        }
        seen.add(new Seen(s, wronged == 1));
        return seen.size();
    }

    int forget() {
        int had = seen.size();
        seen.clear();
        return had;
    }

    private List<Integer> possible() {
        List<Integer> possible = new ArrayList<>();
        for (int p = 0; p < people.size(); p++) {
            int q = p;
            if (seen.stream().allMatch(it -> wronged(q, it.s()) == it.wronged())) {
                possible.add(p);
            }
        }
        return possible;
    }

    int who() {
        return bits(possible());
    }

    int show() {
        List<Integer> possible = possible();
        if (possible.size() < 2) {
            return -9;
        }
        for (int part = 1; part <= 6; part++) {
            for (int s = 0; s < statues.size(); s++) {
                int shown = s;
                int wronged = (int) possible.stream().filter(p -> wronged(p, shown)).count();
                if (Math.max(wronged, possible.size() - wronged) == part) {
                    return s;
                }
            }
        }
        return -9;
    }

    // ---- kinds, images

    private class Stone {
        int rate(int s) {
            trace += 1;
            return statues.get(s).weight();
        }
    }

    private class General extends Stone {
        @Override
        int rate(int s) {
            trace += 10;
            return super.rate(s) + state.yards().get(s);
        }
    }

    private class Poet extends Stone {
        @Override
        int rate(int s) {
            trace += 100;
            return super.rate(s) - pull(s, state.come());
        }
    }

    private class Horse extends General {
        @Override
        int rate(int s) {
            trace += 1000;
            return super.rate(s) * 2;
        }
    }

    private class Saint extends Poet {
        @Override
        int rate(int s) {
            trace += 10000;
            return super.rate(s) + s;
        }
    }

    private class Girl extends Stone {
        @Override
        int rate(int s) {
            trace += 100000;
            return super.rate(s) + wrongedBy(s).size();
        }
    }

    int rate(int kind, int s) {
        if (kind < 0 || kind > 5 || noStatue(s)) {
            return -1000000;
        }
        Stone[] kinds = {new Stone(), new General(), new Poet(), new Horse(), new Saint(), new Girl()};
        return kinds[kind].rate(s);
    }

    int keep(int image) {
        if (image < 0 || image > 1) {
            return -1;
        }
        images.put(image, state);
        return state.come().size();
    }

    int back(int image) {
        if (image < 0 || image > 1) {
            return -1;
        }
        if (!images.containsKey(image)) {
            return -2;
        }
        state = images.get(image);
        past.clear();
        return state.come().size();
    }

    int count(int what) {
        int[] answers = {yards, statues.size(), people.size(), sight, seen.size(), text.length()};
        return what < 0 || what > 5 ? -1 : answers[what];
    }

    long trace() {
        return trace;
    }
}
