import java.lang.reflect.InvocationTargetException;
import java.lang.reflect.Method;
import java.util.Arrays;
import java.util.HashMap;
import java.util.List;
import java.util.Map;
import java.util.stream.Collectors;

/** Runs of 512 calls in any order, wrong ones among them: each answer against the document's. */
public final class RunTest {
    private static final int MOST_CALLS = 512;
    private static final int MOST_TOLD = 5;
    /** A call and what it takes; calls that change the net stand here more often. */
    private static final List<String> CALLS = List.of("node weight", "edge node node on",
            "edge node node on", "edge node node on", "weight node weight", "neighbours node",
            "greatest", "heaviest", "maximal", "maximal number", "cliques size", "cover", "apart",
            "near slack", "colours set", "colour set node", "peeled node", "core node",
            "search work", "searched what", "searched what", "sure size", "taken what",
            "taken what", "sides", "pairs", "count what");
    /** Behind these an object may answer otherwise. */
    private static final List<String> CHANGING
            = List.of("node", "edge", "weight", "search", "sure");
    private static final int[] WRONG = {-1, 0, 5, 16, 17, 31, 32, 33, -16, -32, 1001, 65536, 100001,
        Integer.MAX_VALUE, Integer.MIN_VALUE};

    private static final Check check = new Check("RunTest", MOST_TOLD);
    private static final Map<String, Method> METHODS = new HashMap<>();

    private final Numbers numbers;
    private final int mostNodes;
    private final CliqueSearch x = new CliqueSearch();
    private final Due due = new Due();
    private final StringBuilder behind = new StringBuilder();
    private int calls;
    private int wrong;

    private RunTest(long seed, int mostNodes) {
        this.numbers = new Numbers(seed);
        this.mostNodes = mostNodes;
    }

    public static void main(String[] args) throws ReflectiveOperationException {
        for (int run = 0; run < 400; run++) {
            new RunTest(run, run % 9).run("run " + run);
        }
        for (int run = 400; run < 403; run++) {
            new RunTest(run, 16).run("run " + run);
        }
        check.finish();
    }

    private void run(String name) throws ReflectiveOperationException {
        int nodesAtFirst = mostNodes - numbers.next(mostNodes / 2 + 1);
        int percent = numbers.next(101);
        for (int v = 0; v < nodesAtFirst; v++) {
            ask(name, "node", weight());
        }
        for (int a = 0; a < nodesAtFirst; a++) {
            for (int b = 0; b < a; b++) {
                ask(name, "edge", a, b, numbers.next(100) < percent);
            }
        }
        // Behind a wrong answer the object may hold another net than is due.
        while (calls < MOST_CALLS && wrong == 0) {
            String[] call = CALLS.get(numbers.next(CALLS.size())).split(" ");
            if (!call[0].equals("node") || due.count(0) < mostNodes || mostNodes == 16) {
                ask(name, call[0], chosen(call, percent));
            }
        }
    }

    private Object[] chosen(String[] call, int percent) {
        Object[] args = new Object[call.length - 1];
        for (int i = 0; i < args.length; i++) {
            boolean isWrong = numbers.isOneOf(12);
            if (call[i + 1].equals("on")) {
                args[i] = numbers.next(100) < percent;
            } else {
                args[i] = isWrong ? WRONG[numbers.next(WRONG.length)] : number(call[i + 1]);
            }
        }
        return args;
    }

    /** A number of that kind; some of them are just beyond what there is. */
    private int number(String kind) {
        switch (kind) {
            case "weight":
                return weight();
            case "node":
                return numbers.next(due.count(0) + 1);
            case "number":
                return numbers.next(due.maximal() + 1);
            case "size":
                return numbers.next(numbers.isOneOf(2) ? 6 : 17);
            case "slack":
                return 1 + numbers.next(4);
            case "set":
                return numbers.next(1 << due.count(0));
            case "work":
                return numbers.isOneOf(3) ? 100000 : 1 + numbers.next(30);
            default:
                return numbers.next(5);
        }
    }

    /** Few weights, so that there are like ones. */
    private int weight() {
        return numbers.isOneOf(4) ? 1 + numbers.next(1000) : 1 + numbers.next(3);
    }

    private void ask(String name, String call, Object... args)
            throws ReflectiveOperationException {
        calls++;
        String asked = call + Arrays.stream(args).map(String::valueOf)
                .collect(Collectors.joining(", ", "(", ")"));
        int want = answer(due, call, args);
        try {
            int got = answer(x, call, args);
            wrong += got == want ? 0 : 1;
            check.due(name + ", call " + calls + ", behind" + behind + ": " + asked, want, got);
        } catch (InvocationTargetException e) {
            wrong++;
            check.holds(name + ", behind" + behind + ": " + asked + " threw " + e.getCause(),
                    false);
        }
        if (want != CliqueSearch.BAD && CHANGING.contains(call)) {
            behind.append(' ').append(asked);
        }
    }

    private static int answer(Object of, String call, Object[] args)
            throws ReflectiveOperationException {
        String key = of.getClass().getName() + " " + call + " " + args.length;
        Method found = METHODS.get(key);
        if (found == null) {
            for (Method m : of.getClass().getDeclaredMethods()) {
                boolean fits = m.getName().equals(call) && m.getParameterCount() == args.length;
                found = fits ? m : found;
            }
            METHODS.put(key, found);
        }
        return (int) found.invoke(of, args);
    }
}
