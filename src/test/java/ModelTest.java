import java.lang.reflect.InvocationTargetException;
import java.lang.reflect.Method;
import java.util.ArrayList;
import java.util.HashMap;
import java.util.List;
import java.util.Map;

/** Long random runs of calls, each answered by BoughtKin and by the plain model: the answers must be the same. */
public final class ModelTest {
    private static final int MOST_CALLS = 512;
    private static final Map<String, Method> REAL = methods(BoughtKin.class);
    private static final Map<String, Method> MODEL = methods(PlainModel.class);

    private static int wrong = 0;
    private static final Map<String, int[]> SEEN = new HashMap<>();

    private static Map<String, Method> methods(Class<?> of) {
        Map<String, Method> all = new HashMap<>();
        for (Method m : of.getDeclaredMethods()) {
            if (m.getReturnType() == int.class) {
                m.setAccessible(true);
                all.put(m.getName(), m);
            }
        }
        return all;
    }

    private static int call(Map<String, Method> methods, Object on, RandomCalls.Call call) throws Exception {
        Object[] numbers = new Object[call.numbers.length];
        for (int i = 0; i < numbers.length; i++) {
            numbers[i] = call.numbers[i];
        }
        return (Integer) methods.get(call.name).invoke(on, numbers);
    }

    /** A run ends at the first wrong answer. */
    private static void run(long seed, boolean dear) throws Exception {
        RandomCalls draws = new RandomCalls(seed, dear);
        BoughtKin real = new BoughtKin();
        PlainModel model = new PlainModel();
        List<RandomCalls.Call> made = new ArrayList<>();
        List<RandomCalls.Call> due = new ArrayList<>(draws.beginning());
        // Short runs, too: a country of 512 calls is often one in which all are sold.
        int many = MOST_CALLS - (int) (seed % 4) * 128;
        while (made.size() < many) {
            while (due.isEmpty()) {
                due.addAll(draws.next(model.now));
            }
            RandomCalls.Call call = due.remove(0);
            made.add(call);
            int want = call(MODEL, model, call);
            int got;
            try {
                got = call(REAL, real, call);
            } catch (InvocationTargetException thrown) {
                tell(seed, made, "threw " + thrown.getCause(), want);
                return;
            }
            int[] seen = SEEN.computeIfAbsent(call.name, name -> new int[3]);
            seen[want < 0 ? 0 : want == 0 ? 1 : 2]++;
            if (got != want) {
                tell(seed, made, "answered " + got, want);
                return;
            }
        }
    }

    private static void tell(long seed, List<RandomCalls.Call> made, String what, int want) {
        wrong++;
        System.out.println("run " + seed + ": call " + made.size() + ", " + made.get(made.size() - 1) + " " + what
                + ", due is " + want);
        if (wrong == 1) {
            System.out.println("  the calls: " + made);
        }
    }

    /** Every question must have been answered in each way often, or the runs would show little. */
    private static void lookAtWhatWasSeen() {
        for (String name : new String[] {"offers", "cheap", "join", "lies", "secret", "fair", "orders", "law", "buy",
            "undo", "marry", "line", "kin", "asks", "forged", "back", "drawn", "row"}) {
            int[] seen = SEEN.getOrDefault(name, new int[3]);
            if (seen[1] + seen[2] < 20 || seen[2] == 0 && !name.equals("back")) {
                wrong++;
                System.out.println(name + " was hardly answered: " + seen[0] + ", " + seen[1] + ", " + seen[2]);
            }
        }
    }

    public static void main(String[] args) throws Exception {
        int first = Integer.getInteger("first", 0);
        int cheapRuns = Integer.getInteger("runs", 1200);
        int dearRuns = Integer.getInteger("dear", 300);
        for (int i = first; i < first + cheapRuns && wrong < 5; i++) {
            run(i, false);
        }
        for (int i = first; i < first + dearRuns && wrong < 5; i++) {
            run(1_000_000L + i, true);
        }
        lookAtWhatWasSeen();
        if (Boolean.getBoolean("show")) {
            SEEN.forEach((name, seen) -> System.out.println(name + " " + seen[0] + " " + seen[1] + " " + seen[2]));
        }
        System.out.println(wrong == 0 ? "all answers are as the model's" : wrong + " answers are not as the model's");
        if (wrong != 0) {
            System.exit(1);
        }
    }
}
