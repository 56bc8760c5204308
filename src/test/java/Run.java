import java.lang.reflect.InvocationTargetException;
import java.lang.reflect.Method;
import java.lang.reflect.Modifier;
import java.util.ArrayList;
import java.util.HashMap;
import java.util.List;
import java.util.Map;

/**
 * A run of calls on one object, each told as a text ("pulls(0, 1)"). It remembers its calls, so that it can be played
 * again: a call that is refused is made in one of two such runs, and both must answer alike ever after.
 */
final class Run {
    /** The document promises nothing about an object behind that many calls. */
    private static final int MOST_CALLS = 512;
    private static final Map<String, Method> METHODS = methods();

    private final InsultStatues x = new InsultStatues();
    private final List<String> calls = new ArrayList<>();

    private static Map<String, Method> methods() {
        Map<String, Method> found = new HashMap<>();
        for (Method m : InsultStatues.class.getDeclaredMethods()) {
            if (Modifier.isPublic(m.getModifiers())) {
                found.put(m.getName(), m);
            }
        }
        return found;
    }

    /** A new object to which a text without a fault has been told. */
    static Run told(String text) {
        Run run = new Run().type(text);
        if (run.call("town()") < 0) {
            Expect.yes(run + " has no fault", false);
        }
        return run;
    }

    Run type(String text) {
        for (int i = 0; i < text.length(); i++) {
            call("type(" + (int) text.charAt(i) + ")");
        }
        return this;
    }

    /** Calls of which the answers do not matter here. */
    Run calls(String... made) {
        for (String call : made) {
            call(call);
        }
        return this;
    }

    Run due(String call, long want) {
        String before = toString();
        Expect.due(before + " " + call, want, call(call));
        return this;
    }

    /** The call is answered so, and nothing has changed by it. */
    Run refused(String call, long want) {
        Run with = again();
        Expect.due(this + " " + call, want, with.call(call));
        alike(call, again().everything(), with.everything());
        Run askedMore = again().calls(call);
        alike(call, again().whatFollows(), askedMore.whatFollows());
        call(call);
        return this;
    }

    private void alike(String call, List<String> due, List<String> got) {
        for (int i = 0; i < Math.min(due.size(), got.size()); i++) {
            if (!due.get(i).equals(got.get(i))) {
                Expect.yes(this + " " + call + " changes nothing: " + got.get(i) + ", not " + due.get(i), false);
                break;
            }
        }
        Expect.due(this + " " + call + " leaves as much to ask", due.size(), got.size());
    }

    /** # stands for a number from least to most: those beside them, and the farthest, are refused. */
    Run beyond(String form, int least, int most, int want) {
        int[] numbers = {least - 1, most + 1, most + 32, least - 32, least + 256, Integer.MIN_VALUE,
            Integer.MIN_VALUE + 1, Integer.MAX_VALUE};
        for (int number : numbers) {
            refused(form.replace("#", Integer.toString(number)), want);
        }
        return this;
    }

    /** The text is at fault there: it is refused, and still there. */
    Run fault(int place) {
        return refused("town()", -10 - place);
    }

    long call(String call) {
        calls.add(call);
        if (calls.size() > MOST_CALLS) {
            throw new IllegalStateException("the document promises nothing any more: " + this);
        }
        int open = call.indexOf('(');
        Method method = METHODS.get(call.substring(0, open));
        String inside = call.substring(open + 1, call.length() - 1);
        String[] told = inside.isEmpty() ? new String[0] : inside.split(", ");
        Object[] numbers = new Object[told.length];
        for (int i = 0; i < told.length; i++) {
            numbers[i] = Integer.valueOf(told[i]);
        }
        try {
            return ((Number) method.invoke(x, numbers)).longValue();
        } catch (InvocationTargetException | IllegalAccessException e) {
            throw new IllegalStateException(this + " threw", e);
        }
    }

    private Run again() {
        return new Run().calls(calls.toArray(new String[0]));
    }

    /** All that is told and done, and then all that shows itself only by going back; the run is used up by it. */
    private List<String> everything() {
        List<String> all = new ArrayList<>();
        int statues = (int) Math.min(answer(all, "count(1)"), 6);
        int people = (int) Math.min(answer(all, "count(2)"), 6);
        for (int s = 0; s < statues; s++) {
            ask(all, "statue(" + s + ", #)", 7);
        }
        for (int p = 0; p < people; p++) {
            ask(all, "one(" + p + ", #)", 6);
        }
        ask(all, "now(#)", 4);
        ask(all, "count(#)", 6);
        answer(all, "who()");
        answer(all, "show()");
        answer(all, "trace()");
        for (int i = 0; i < 12 && answer(all, "undo()") >= 0; i++) {
            askWhatIsDone(all, statues);
        }
        for (int image = 0; image < 2; image++) {
            if (answer(all, "back(" + image + ")") >= 0) {
                askWhatIsDone(all, statues);
            }
        }
        answer(all, "town()");
        ask(all, "count(#)", 6);
        answer(all, "clear()");
        return all;
    }

    /** All that follows from what is told and done: asked of a run of its own, for the sake of its 512 calls. */
    private List<String> whatFollows() {
        List<String> all = new ArrayList<>();
        int yards = (int) Math.min(answer(all, "count(0)"), 10);
        int statues = (int) Math.min(answer(all, "count(1)"), 6);
        int people = (int) Math.min(answer(all, "count(2)"), 6);
        ask(all, "gather(#)", 1 << statues);
        ask(all, "bare(#, 0)", yards);
        ask(all, "bare(#, 1)", yards);
        for (int s = 0; s < statues; s++) {
            ask(all, "scale(#, " + s + ")", people);
            ask(all, "offends(" + s + ", #)", yards);
            ask(all, "odds(" + s + ", 3, #)", 2);
            ask(all, "rate(#, " + s + ")", 6);
        }
        answer(all, "trace()");
        return all;
    }

    private void askWhatIsDone(List<String> all, int statues) {
        answer(all, "now(0)");
        for (int s = 0; s < statues; s++) {
            answer(all, "statue(" + s + ", 0)");
            answer(all, "statue(" + s + ", 3)");
        }
    }

    private void ask(List<String> all, String form, int answers) {
        for (int what = 0; what < answers; what++) {
            answer(all, form.replace("#", Integer.toString(what)));
        }
    }

    private long answer(List<String> all, String call) {
        long answer = call(call);
        all.add(call + " answers " + answer);
        return answer;
    }

    @Override
    public String toString() {
        StringBuilder b = new StringBuilder();
        boolean typing = false;
        for (String call : calls) {
            boolean letter = call.startsWith("type(") && call.length() > 6 && call.length() < 10
                && !call.contains("-");
            if (letter != typing) {
                b.append(typing ? "' " : " '");
                typing = letter;
            }
            if (letter) {
                b.append((char) Integer.parseInt(call.substring(5, call.length() - 1)));
            } else {
                b.append(call).append(' ');
            }
        }
        return b.append(typing ? "'" : "").toString();
    }
}
