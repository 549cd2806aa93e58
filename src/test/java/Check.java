import java.util.function.LongSupplier;

/** What the project's tests are built from: answers that are due, hills told, calls refused. */
final class Check {
    private static final long LONG_REFUSAL = 4000000000000000000L;
    private int wrong = 0;
    private int looked = 0;

    void due(String call, long got, long want) {
        looked++;
        if (got != want) {
            wrong++;
            System.out.println(call + " answered " + got + ", due is " + want);
        }
    }

    void holds(String what, boolean so) {
        due(what, so ? 1 : 0, 1);
    }

    static int tell(WellOfTheSilent x, String letters) {
        for (int i = 0; i < letters.length(); i++) {
            x.letter(letters.charAt(i));
        }
        return x.hill();
    }

    WellOfTheSilent told(String letters) {
        WellOfTheSilent x = new WellOfTheSilent();
        holds("the hill " + letters + " is without fault", tell(x, letters) > 0);
        return x;
    }

    static WellOfTheSilent withRow(WellOfTheSilent x, int... numbers) {
        x.clear();
        for (int number : numbers) {
            x.row(number);
        }
        return x;
    }

    /** The call answers the refusal, and nothing changes but how many of it there were. */
    void refuses(WellOfTheSilent x, String call, LongSupplier run, int refusal) {
        String before = seen(x);
        long[] counts = refusals(x);
        long want = call.startsWith("sneeze") || call.startsWith("mean") ? LONG_REFUSAL - refusal : refusal;
        due(call, run.getAsLong(), want);
        counts[-refusal - 1]++;
        long[] after = refusals(x);
        for (int i = 0; i < counts.length; i++) {
            due("refusals " + (-i - 1) + " behind " + call, after[i], counts[i]);
        }
        holds("all but the refusals is as before behind " + call, before.equals(seen(x)));
    }

    /** The call is a question: whatever it answers, it leaves everything as it was. */
    void changesNothing(WellOfTheSilent x, String call, LongSupplier run) {
        String before = seen(x);
        long[] counts = refusals(x);
        run.getAsLong();
        holds(call + " changes nothing", before.equals(seen(x)));
        holds(call + " is not refused", java.util.Arrays.equals(counts, refusals(x)));
    }

    static long[] refusals(WellOfTheSilent x) {
        long[] counts = new long[6];
        for (int i = 0; i < counts.length; i++) {
            counts[i] = x.count(11 + i);
        }
        return counts;
    }

    static String seen(WellOfTheSilent x) {
        StringBuilder text = new StringBuilder();
        for (int what = 0; what <= 7; what++) {
            text.append(x.count(what)).append(' ');
        }
        for (int person = 0; person < x.count(0); person++) {
            for (int what = 0; what <= 8; what++) {
                text.append(x.person(person, what)).append(' ');
            }
            text.append(x.whatIs(person, 0)).append(' ').append(x.whatIs(person, 1)).append(' ');
        }
        return text.toString();
    }

    void end() {
        System.out.println(wrong == 0 ? looked + " answers are as due" : wrong + " answers are not as due");
        if (wrong != 0) {
            System.exit(1);
        }
    }
}
