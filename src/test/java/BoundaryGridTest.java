import java.util.HashMap;
import java.util.LinkedHashMap;
import java.util.List;
import java.util.Map;

/**
 * All promises: every call with every mix of arguments from around the bounds, on
 * objects that are empty, busy and full. The answers are compared with the
 * model's; a call that is refused, or that only looks, changes nothing.
 */
public final class BoundaryGridTest {
    private static final Check check = new Check();

    private static final int[] SLOTS = {Integer.MIN_VALUE, -1, 0, 1, 2, 3, 4, Integer.MAX_VALUE};
    private static final int[] NUMBERS = {
        Integer.MIN_VALUE, -1, 0, 1, 2, 3, 4, 5, 6, 7, 9, 10, 19, 20, 21, 38, 39, 40, 41, 59, 60, 79, 80, 81,
        256, 65536, Integer.MAX_VALUE - 39, Integer.MAX_VALUE};
    private static final int[] SIDES = {Integer.MIN_VALUE, -1, 0, 1, Integer.MAX_VALUE};

    private static final String[] STATES = {
        "",
        Calls.BUSY,
        "type(1)*40 begin(40) finish(0) begin(39) finish(1) begin(40) drop(40) finish(2) begin(40) drop(1) add(5) finish(3)"
            + " begin(40) keep(39)",
        "type(2)*39 begin(0) add(1)*20 finish(0) begin(0) add(2)*20 finish(1) begin(0) add(3)*21 finish(2)"
            + " begin(20) add(4)*20 finish(3) begin(40) add(6)*39",
        "type(1) type(2) begin(2) keep(1) add(3) finish(0) begin(2) add(4) drop(1) finish(1)"
            + " begin(3) drop(1) finish(2) begin(2) keep(2) add(5) finish(3) begin(1) add(7)*40",
    };

    private static final List<String> CHANGING =
        List.of("begin", "keep", "drop", "add", "finish", "join", "carry", "apply", "type", "clear");

    private static final Map<String, String> before = new HashMap<>();

    public static void main(String[] args) {
        for (String state : STATES) {
            before.put(state, Calls.modelAfter(state).whole());
            for (Map.Entry<String, int[][]> call : calls().entrySet()) {
                everyMix(state, call.getKey(), call.getValue());
            }
        }
        check.end();
    }

    private static Map<String, int[][]> calls() {
        Map<String, int[][]> calls = new LinkedHashMap<>();
        for (String name : "begin keep drop add type at".split(" ")) {
            calls.put(name, new int[][] {NUMBERS});
        }
        for (String name : "finish inLength outLength runs".split(" ")) {
            calls.put(name, new int[][] {SLOTS});
        }
        calls.put("join", new int[][] {SLOTS, SLOTS, SLOTS});
        calls.put("carry", new int[][] {SLOTS, SLOTS, SIDES, SLOTS});
        calls.put("apply", new int[][] {SLOTS, SLOTS});
        calls.put("clear", new int[][] {});
        calls.put("length", new int[][] {});
        calls.put("run", new int[][] {SLOTS, NUMBERS});
        calls.put("added", new int[][] {SLOTS, NUMBERS});
        calls.put("same", new int[][] {SLOTS, SLOTS});
        return calls;
    }

    private static void everyMix(String state, String name, int[][] values) {
        int mixes = 1;
        for (int[] list : values) {
            mixes *= list.length;
        }
        for (int mix = 0; mix < mixes; mix++) {
            int[] v = new int[values.length];
            int rest = mix;
            for (int i = 0; i < v.length; i++) {
                v[i] = values[i][rest % values[i].length];
                rest /= values[i].length;
            }
            oneMix(state, name, v);
        }
    }

    private static void oneMix(String state, String name, int[] v) {
        TextDelta x = Calls.after(state);
        Model y = Calls.modelAfter(state);
        String call = state + " " + Calls.text(name, v);
        int want = y.answer(name, v);
        check.due(call, Calls.answer(x, name, v), want);
        boolean changes = want >= 0 && CHANGING.contains(name);
        check.due(call + ", and then all that it holds", Check.state(x) + " " + Check.workOf(x),
            changes ? y.whole() : before.get(state));
    }
}
