import java.util.Map;
import java.util.TreeMap;

/**
 * All promises: long mixed runs of calls, the same in every run of the test, and
 * each answer compared with the model's.
 */
public final class ModelTest {
    private static final int OBJECTS = 3000;
    private static final int CALLS = 512;
    private static final int[] ODD = {-1, -2, 4, 10, 40, 41, 80, 1000, Integer.MIN_VALUE, Integer.MAX_VALUE};
    private static final String[] NAMES = {
        "begin", "keep", "drop", "add", "finish", "join", "carry", "apply", "type", "clear",
        "length", "at", "inLength", "outLength", "runs", "run", "added", "same"};
    // How often each call of NAMES comes up: deltas begun often stay short, deltas
    // begun seldom come to the limits.
    private static final int[][] WEIGHTS = {
        {12, 12, 8, 12, 12, 10, 14, 12, 4, 1, 2, 6, 3, 3, 4, 12, 8, 5},
        {1, 16, 4, 24, 10, 10, 14, 4, 12, 0, 2, 6, 3, 3, 4, 12, 8, 5}};

    private static final Check check = new Check();
    private static final Map<String, Integer> seen = new TreeMap<>();

    private final TextDelta x = new TextDelta();
    private final Model y = new Model();
    private final StringBuilder story = new StringBuilder();
    private long seed;
    // Small in lengths often fit each other; large ones reach the limits.
    private final int size;
    private final int[] weights;

    private ModelTest(int number) {
        seed = number * 7919L + 1;
        int[] sizes = {0, 2, 4, 8, 20, 40};
        size = sizes[number % sizes.length];
        weights = WEIGHTS[number / sizes.length % WEIGHTS.length];
    }

    public static void main(String[] args) {
        for (int number = 0; number < OBJECTS; number++) {
            if (!new ModelTest(number).runs(number)) {
                break;
            }
        }
        everyAnswerWasSeen();
        check.end();
    }

    private boolean runs(int number) {
        for (int i = 0; i < CALLS; i++) {
            if (!oneCall(number)) {
                System.out.println("object " + number + ":" + story);
                return false;
            }
        }
        return true;
    }

    private int below(int bound) {
        seed = seed * 6364136223846793005L + 1442695040888963407L;
        return (int) ((seed >>> 33) % bound);
    }

    private int oddOr(int usual) {
        return below(40) == 0 ? ODD[below(ODD.length)] : usual;
    }

    private int slot() {
        return oddOr(below(4));
    }

    /** Most often a slot of this in length, if there is one. */
    private int fitting(int in) {
        int first = below(4);
        for (int i = below(4) == 0 ? 4 : 0; i < 4; i++) {
            int slot = (first + i) % 4;
            if (y.inLength(slot) == in) {
                return oddOr(slot);
            }
        }
        return slot();
    }

    private int inLengthToBegin() {
        int way = below(4);
        if (way == 0) {
            return y.length();
        }
        if (way == 1) {
            return y.inLength(below(4));
        }
        return way == 2 ? y.outLength(below(4)) : below(size + 1);
    }

    private String name() {
        int all = 0;
        for (int weight : weights) {
            all += weight;
        }
        int left = below(all);
        int i = 0;
        while (left >= weights[i]) {
            left -= weights[i];
            i++;
        }
        return NAMES[i];
    }

    private int[] arguments(String name) {
        int a = slot();
        switch (name) {
            case "begin": return new int[] {oddOr(inLengthToBegin())};
            case "keep": case "drop": return new int[] {oddOr(below(size / 4 + 2))};
            case "add": case "type": return new int[] {oddOr(below(10))};
            case "join": return new int[] {a, fitting(y.outLength(a)), slot()};
            case "carry": return new int[] {a, fitting(y.inLength(a)), oddOr(below(2)), slot()};
            case "apply": return new int[] {fitting(y.length()), a};
            case "at": return new int[] {oddOr(below(y.length() + 1))};
            case "run": return new int[] {a, oddOr(below(Math.max(0, y.runs(a)) + 1))};
            case "added": return new int[] {a, oddOr(below(Math.max(0, y.outLength(a)) + 1))};
            case "same": return new int[] {a, slot()};
            case "clear": case "length": return new int[0];
            default: return new int[] {a};
        }
    }

    private boolean oneCall(int number) {
        String name = name();
        int[] v = arguments(name);
        String call = Calls.text(name, v);
        story.append(' ').append(call);
        int want = y.answer(name, v);
        int got = Calls.answer(x, name, v);
        seen.merge(name + (want < 0 ? want : "+"), 1, Integer::sum);
        check.due("object " + number + ": " + call, got, want);
        return got == want;
    }

    /** A mix of calls that never comes to an answer would test nothing of it. */
    private static void everyAnswerWasSeen() {
        String[] due = {
            "begin+", "begin-1", "keep+", "keep-1", "keep-2", "keep-3", "drop+", "drop-1", "drop-3",
            "add+", "add-1", "add-2", "finish+", "finish-1", "finish-2", "join+", "join-1", "join-3",
            "carry+", "carry-1", "carry-2", "carry-3", "apply+", "apply-1", "apply-3",
            "type+", "type-1", "type-2", "clear+", "length+", "at+", "at-4", "inLength+", "inLength-1",
            "outLength+", "outLength-1", "runs+", "runs-1", "run+", "run-1", "run-4",
            "added+", "added-1", "added-4", "same+"};
        for (String answer : due) {
            check.due("seen " + answer, seen.getOrDefault(answer, 0) >= 20, true);
        }
    }
}
