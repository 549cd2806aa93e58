import java.lang.reflect.Method;
import java.util.ArrayList;
import java.util.Arrays;
import java.util.Comparator;
import java.util.List;
import java.util.Map;
import java.util.Random;
import java.util.function.IntSupplier;

/** All promises: runs of calls by lot, each answer looked at beside the Model's. */
public final class ModelTest {
    private static final int RUNS = 700;
    private static final int PROMISED_CALLS = 512;
    private static final Map<String, int[]> GREATEST = Map.ofEntries(
        Map.entry("letter", new int[] {255}), Map.entry("person", new int[] {5, 8}),
        Map.entry("speaks", new int[] {5}), Map.entry("befriends", new int[] {5, 5}),
        Map.entry("pours", new int[] {5, 24}), Map.entry("cans", new int[] {5, 9}),
        Map.entry("water", new int[] {40}), Map.entry("flow", new int[] {30}),
        Map.entry("turn", new int[] {5, 5, 9}), Map.entry("hours", new int[] {14}),
        Map.entry("hasThen", new int[] {5, 60}), Map.entry("then", new int[] {60, 3}),
        Map.entry("dry", new int[] {5}), Map.entry("flowBest", new int[] {48}),
        Map.entry("canBest", new int[] {5, 48}), Map.entry("friendBest", new int[] {5, 48}),
        Map.entry("hush", new int[] {48}), Map.entry("fewest", new int[] {24}),
        Map.entry("word", new int[] {24}), Map.entry("send", new int[] {24, 1}),
        Map.entry("richest", new int[] {2}), Map.entry("quiet", new int[] {11}),
        Map.entry("lasts", new int[] {5}), Map.entry("carries", new int[] {1}),
        Map.entry("two", new int[] {5, 5, 24}), Map.entry("sneeze", new int[] {5, 7, 20, 30, 1}),
        Map.entry("mean", new int[] {1}), Map.entry("whatIs", new int[] {5, 1}),
        Map.entry("row", new int[] {20}), Map.entry("lots", new int[] {20, 1000000, 1}),
        Map.entry("count", new int[] {17}));
    private static final Check check = new Check();
    private static int callsLeft = 0;

    public static void main(String[] args) throws ReflectiveOperationException {
        Method[] methods = WellOfTheSilent.class.getDeclaredMethods();
        List<Method> calls = new ArrayList<>(Arrays.stream(methods).filter(m -> (m.getModifiers() & 1) != 0).toList());
        calls.sort(Comparator.comparing(Method::getName));
        check.due("methods of the face", calls.size(), 39);
        for (int run = 0; run < RUNS; run++) {
            oneRun(run, calls, new Random(run));
        }
        check.end();
    }

    private static void oneRun(int run, List<Method> calls, Random lot) throws ReflectiveOperationException {
        WellOfTheSilent x = new WellOfTheSilent();
        Model model = new Model();
        callsLeft = PROMISED_CALLS;
        for (int i = 0; callsLeft > 0; i++) {
            int kind = lot.nextInt(i < 12 ? 2 : 12);
            if (kind == 0) {
                tell(run, x, model, lot);
            } else if (kind == 1) {
                tellRow(run, x, model, lot);
            } else {
                Method call = calls.get(lot.nextInt(calls.size()));
                same(run, x, model, call, numbers(call, lot));
            }
        }
    }

    private static void looked(int run, String call, IntSupplier got, IntSupplier want) {
        // Behind the promised calls an answer is free, so none is asked for.
        if (callsLeft > 0) {
            callsLeft--;
            check.due("run " + run + ": " + call, got.getAsInt(), want.getAsInt());
        }
    }

    private static void same(int run, WellOfTheSilent x, Model model, Method call, Object[] numbers)
            throws ReflectiveOperationException {
        Method other = Model.class.getMethod(call.getName(), call.getParameterTypes());
        callsLeft--;
        long want = ((Number) other.invoke(model, numbers)).longValue();
        long got = ((Number) call.invoke(x, numbers)).longValue();
        check.due("run " + run + ": " + call.getName() + Arrays.toString(numbers), got, want);
    }

    private static Object[] numbers(Method call, Random lot) {
        int[] greatest = GREATEST.getOrDefault(call.getName(), new int[0]);
        Object[] numbers = new Object[call.getParameterCount()];
        for (int i = 0; i < numbers.length; i++) {
            int[] strange = {-1, -2, greatest[i] + 1, 100, 256, Integer.MIN_VALUE, Integer.MAX_VALUE, lot.nextInt()};
            numbers[i] = lot.nextInt(25) == 0 ? strange[lot.nextInt(strange.length)] : lot.nextInt(greatest[i] + 1);
        }
        return numbers;
    }

    private static void tell(int run, WellOfTheSilent x, Model model, Random lot) {
        StringBuilder text = new StringBuilder();
        int statements = lot.nextInt(8);
        for (int i = 0; i < statements; i++) {
            text.append(statement(lot));
        }
        if (lot.nextInt(4) == 0 && text.length() > 0) {
            text.setCharAt(lot.nextInt(text.length()), "pfgwlsh;0123456789mt".charAt(lot.nextInt(20)));
        }
        if (lot.nextInt(8) == 0 && text.length() > 0) {
            text.setLength(lot.nextInt(text.length()));
        }
        for (int i = 0; i < text.length(); i++) {
            char c = text.charAt(i);
            looked(run, "letter", () -> x.letter(c), () -> model.letter(c));
        }
        looked(run, "hill of " + text, x::hill, model::hill);
    }

    private static String statement(Random lot) {
        int person = lot.nextInt(lot.nextInt(3) == 0 ? 6 : 2);
        switch (lot.nextInt(9)) {
            case 0: return "f" + person + lot.nextInt(lot.nextInt(5) == 0 ? 8 : 3) + ";";
            case 1: return String.format("g%d%02d;", person, lot.nextInt(24));
            case 2: return String.format("w%02d;", lot.nextInt(30));
            case 3: return String.format("l%02d;", lot.nextInt(33));
            case 4: return "s" + person + ";";
            case 5: return String.format("h%02d;", lot.nextInt(lot.nextInt(5) == 0 ? 63 : 14));
            default: return "p" + "pwsmtl".charAt(lot.nextInt(6)) + lot.nextInt(10) + lot.nextInt(10) + ";";
        }
    }

    /** A ROW that is so for somebody, or nearly, for one by lot would hardly ever be so. */
    private static void tellRow(int run, WellOfTheSilent x, Model model, Random lot) {
        looked(run, "clear()", x::clear, model::clear);
        int size = lot.nextInt(17);
        int person = lot.nextInt(6);
        boolean ofCans = lot.nextBoolean();
        for (int i = 0; i < size && person < model.count(0); i++) {
            boolean told = lot.nextInt(20) != 0 && (!ofCans || i < model.count(0));
            int v = !told ? lot.nextInt(10) : ofCans ? model.person(i, 2) : model.hasThen(person, i);
            looked(run, "row(" + v + ")", () -> x.row(v), () -> model.row(v));
        }
    }
}
