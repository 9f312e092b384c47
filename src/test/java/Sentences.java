import java.util.List;
import java.util.Map;
import java.util.TreeMap;
import java.util.TreeSet;
import java.util.function.IntPredicate;
import java.util.function.Supplier;
import java.util.function.ToIntFunction;
import java.util.stream.IntStream;

/** Tests that stand for sentences of the document: each answer is told with its sentence. */
final class Sentences {
    static final int LEAST = Integer.MIN_VALUE;
    static final int MOST = Integer.MAX_VALUE;

    /** Few faults of each sentence, so that every sentence that is broken is told. */
    private final Check check = new Check("BoundaryTest", 4);
    private final Map<String, TreeSet<String>> quoted = new TreeMap<>();
    private String sentence = "";

    /** Runs tests; if the class throws, that is told with the sentence too. */
    void test(Runnable tests) {
        try {
            tests.run();
        } catch (RuntimeException | StackOverflowError e) {
            holds("no call throws, but there was " + e, false);
        }
    }

    /** From here on the tests stand for these words below that heading, for such a promise. */
    void says(String heading, String words, String promise) {
        quoted.computeIfAbsent(heading, h -> new TreeSet<>()).add(words);
        check.nextGroup();
        sentence = heading + (promise.isEmpty() ? "" : ", for promise " + promise)
                + ", '" + words + "': ";
    }

    void promise(int number, String words) {
        says("Promise " + number, words, "");
    }

    void term(String promises, String words) {
        says("Terms", words, promises);
    }

    void due(String call, int want, int got) {
        check.due(sentence + call, want, got);
    }

    void holds(String what, boolean isSo) {
        check.holds(sentence + what, isSo);
    }

    /** A call that is refused answers so, and leaves all as it was. */
    void refused(String call, int want, Supplier<CliqueSearch> make,
            ToIntFunction<CliqueSearch> ask) {
        CliqueSearch x = make.get();
        String before = Nets.state(x);
        due(call, want, ask.applyAsInt(x));
        String after = Nets.state(x);
        holds(call + " leaves all as it was: " + before + " (then: " + after + ")",
                after.equals(before));
    }

    /** Numbers that are not least .. most: just beyond, far off, and such as bits wrap around. */
    static int[] outside(int least, int most) {
        IntPredicate isInside = i -> i >= least && i <= most;
        return IntStream.of(least - 1, most + 1, least - 2, most + 2, least - 32, least + 32,
                most + 32, least + 256, least + 65536, most + 65536, LEAST, LEAST + 1,
                LEAST + least, LEAST + most, MOST, MOST - 1, -most, -1)
                .filter(isInside.negate()).distinct().toArray();
    }

    /** That what was quoted stands in the document, and that no sentence there is without test. */
    void compareWith(Document document, List<String> untested) {
        check.nextGroup();
        sentence = "";
        quoted.forEach((heading, all) -> {
            for (String words : all) {
                holds("'" + words + "' stands below '" + heading + "'",
                        document.says(heading, words));
            }
        });
        for (String heading : document.headings()) {
            for (String whole : document.sentences(heading)) {
                boolean free = untested.stream().anyMatch(
                        start -> heading.startsWith(start) || whole.startsWith(start));
                holds("a test stands for '" + whole + "' of '" + heading + "'",
                        free || isTested(heading, whole));
            }
        }
    }

    private boolean isTested(String heading, String whole) {
        TreeSet<String> all = quoted.getOrDefault(heading, new TreeSet<>());
        return all.stream().anyMatch(whole::contains);
    }

    void finish() {
        check.finish();
    }
}
