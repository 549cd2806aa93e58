import java.lang.reflect.Method;
import java.util.ArrayList;
import java.util.Arrays;
import java.util.HashMap;
import java.util.List;
import java.util.Map;

/**
 * What the edge tests are built from: a sentence of the document, a run of calls written as text, and
 * answers that are due. A call that must change nothing is made on an object of its own, which is then
 * held beside a twin that had the same run without it.
 */
final class Edges {
    private static final long LONG_REFUSAL = 4000000000000000000L;
    private static final int PROMISED_CALLS = 512;
    private static final String[] LATER = {"then(1, 2)", "then(13, 1)", "then(13, 3)", "then(60, 0)", "then(60, 3)", "next()",
        "letter(59)", "hill()", "whatIs(0, 0)", "judge()", "count(2)", "on()"};
    private static final Map<String, Method> FACE = new HashMap<>();

    static {
        for (Method method : WellOfTheSilent.class.getMethods()) {
            FACE.put(method.getName(), method);
        }
    }

    /** An object and how many calls it had. */
    private final class One {
        final WellOfTheSilent x = new WellOfTheSilent();
        int calls = 0;

        long answer(String call) {
            calls++;
            if (calls == PROMISED_CALLS + 1) {
                check.holds(labelled(call) + ": the object is used no more than it is promised for", false);
            }
            return answerOf(x, call);
        }
    }

    private final Check check = new Check();
    private final List<String> run = new ArrayList<>();
    private One now = new One();
    private String sentence = "";
    private int looksOfSentence = 1;

    /** The sentence that what follows is the test of: its promise's number, or 0 for the rules ahead. */
    void says(int promise, String words) {
        eachSentenceIsLookedAt();
        sentence = "promise " + promise + ", \"" + words + "\"";
        looksOfSentence = 0;
        anew();
    }

    private void eachSentenceIsLookedAt() {
        check.holds(sentence + " has a test", looksOfSentence > 0);
    }

    void anew() {
        run.clear();
        now = new One();
    }

    /** A new object and a HILL that comes to it. */
    void told(String letters) {
        anew();
        tell(letters);
    }

    /** A HILL that comes to the object there is. */
    void tell(String letters) {
        letters(letters);
        check.holds(labelled("hill of " + letters) + " is without fault", answer("hill()") > 0);
    }

    void letters(String letters) {
        for (char c : letters.toCharArray()) {
            answer("letter(" + (int) c + ")");
        }
    }

    /** The letters are told, and the HILL has the FAULT: nothing comes, and nothing is counted. */
    void fault(String letters, int want) {
        One twin = replayed();
        letters(letters);
        due("hill()", want);
        String behind = refusals(now, 0) + seen(now);
        holds("with the FAULT of " + letters + " nothing comes", behind.equals(refusals(twin, 0) + seen(twin)));
    }

    void calls(String... more) {
        for (String call : more) {
            answer(call);
        }
    }

    /** The call goes into the run, and its answer is looked at. */
    void due(String call, long want) {
        looksOfSentence++;
        check.due(labelled(call), answer(call), want);
    }

    /** The call answers that, and changes nothing at all. */
    void asks(String call, long want) {
        One asked = replayed();
        looksOfSentence++;
        check.due(labelled(call), asked.answer(call), want);
        holds(call + " changes nothing", later(asked, 0).equals(later(replayed(), 0)));
    }

    /** The call is refused so, and changes nothing but how many such refusals there were. */
    void refused(String call, int refusal) {
        One asked = replayed();
        boolean ofLong = FACE.get(nameOf(call)).getReturnType() == long.class;
        looksOfSentence++;
        check.due(labelled(call), asked.answer(call), ofLong ? LONG_REFUSAL - refusal : refusal);
        holds(call + " changes nothing but the refusals " + refusal,
            later(asked, 0).equals(later(replayed(), refusal)));
    }

    void holds(String what, boolean so) {
        looksOfSentence++;
        check.holds(labelled(what), so);
    }

    void end() {
        eachSentenceIsLookedAt();
        check.end();
    }

    private String labelled(String call) {
        StringBuilder text = new StringBuilder(sentence + ":");
        for (String made : run) {
            boolean isSign = made.matches("letter\\((3[3-9]|[4-9]\\d|1[01]\\d|12[0-6])\\)");
            text.append(isSign ? "" + (char) (int) number(made.substring(7, made.length() - 1)) : " " + made + " ");
        }
        return text + " " + call;
    }

    private long answer(String call) {
        run.add(call);
        return now.answer(call);
    }

    private One replayed() {
        One other = new One();
        for (String call : run) {
            other.answer(call);
        }
        return other;
    }

    /** All that can be seen of it: also, by calls further on, what it thinks, its letters, its ROW and its IMAGE. */
    private static String later(One one, int refusalMore) {
        StringBuilder text = new StringBuilder(refusals(one, refusalMore) + seen(one));
        for (String call : LATER) {
            text.append(one.answer(call)).append(' ');
        }
        return text + seen(one);
    }

    private static String refusals(One one, int refusalMore) {
        StringBuilder text = new StringBuilder();
        for (int refusal = -1; refusal >= -6; refusal--) {
            text.append(one.answer("count(" + (10 - refusal) + ")") + (refusal == refusalMore ? 1 : 0)).append(' ');
        }
        return text.toString();
    }

    private static String seen(One one) {
        StringBuilder text = new StringBuilder();
        for (int what = 0; what <= 7; what++) {
            text.append(one.answer("count(" + what + ")")).append(' ');
        }
        long people = one.answer("count(0)");
        for (int person = 0; person < people; person++) {
            for (int what = 0; what <= 6; what++) {
                text.append(one.answer("person(" + person + ", " + what + ")")).append(' ');
            }
        }
        return text.toString();
    }

    private static String nameOf(String call) {
        return call.substring(0, call.indexOf('('));
    }

    static long answerOf(WellOfTheSilent x, String call) {
        String inside = call.substring(call.indexOf('(') + 1, call.length() - 1);
        String[] words = inside.isEmpty() ? new String[0] : inside.split(", ");
        Object[] numbers = Arrays.stream(words).map(Edges::number).toArray();
        try {
            return ((Number) FACE.get(nameOf(call)).invoke(x, numbers)).longValue();
        } catch (ReflectiveOperationException e) {
            throw new IllegalStateException(call, e);
        }
    }

    private static Integer number(String word) {
        switch (word) {
            case "least": return Integer.MIN_VALUE;
            case "most": return Integer.MAX_VALUE;
            default: return Integer.valueOf(word);
        }
    }
}
