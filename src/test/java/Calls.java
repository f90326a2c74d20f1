import java.util.function.ToIntBiFunction;
import java.util.regex.Matcher;
import java.util.regex.Pattern;

/** Calls told as text, such as "begin(3) add(7)*40 finish(0)", made on an object. */
final class Calls {
    private static final Pattern CALL = Pattern.compile("\\s*(\\w+)\\(([^)]*)\\)(?:\\*(\\d+))?\\s*");

    /**
     * Something different everywhere, so that a change of any part can be seen:
     * document 314, slots 3>4 A1 K3 +5, 2>1 D1 K1 +, 4>3 K1 A1 D2 K1 +6 and
     * 1>3 A2 K1 +78, and a work delta 6> K2 A1 D1 +9 with 3 of 6 places used.
     */
    static final String BUSY = "type(3) type(1) type(4)"
        + " begin(3) add(5) finish(0) begin(2) drop(1) finish(1)"
        + " begin(4) keep(1) add(6) drop(2) finish(2) begin(1) add(7) add(8) finish(3)"
        + " begin(6) keep(2) add(9) drop(1) ";

    /** The first number on each side of 0 to 3, and the outermost ones. */
    static final int[] BAD_SLOTS = {-1, 4, Integer.MIN_VALUE, Integer.MAX_VALUE};

    /** The first number on each side of 0 to 9, and the outermost ones. */
    static final int[] BAD_LETTERS = {-1, 10, Integer.MIN_VALUE, Integer.MAX_VALUE};

    private Calls() {
    }

    /** A new object after these calls. */
    static TextDelta after(String calls) {
        TextDelta x = new TextDelta();
        prepare(calls, (name, v) -> answer(x, name, v));
        return x;
    }

    static Model modelAfter(String calls) {
        Model y = new Model();
        prepare(calls, y::answer);
        return y;
    }

    /**
     * The calls only prepare a test, so a refused one among them is an error: the
     * test would not be about what it says.
     */
    private static void prepare(String calls, ToIntBiFunction<String, int[]> object) {
        Matcher call = CALL.matcher(calls);
        int end = 0;
        while (end < calls.length()) {
            call.region(end, calls.length());
            if (!call.lookingAt()) {
                throw new IllegalArgumentException("not a list of calls: " + calls);
            }
            int times = call.group(3) == null ? 1 : Integer.parseInt(call.group(3));
            for (int i = 0; i < times; i++) {
                int answer = object.applyAsInt(call.group(1), numbers(call.group(2)));
                if (answer < 0) {
                    throw new IllegalStateException(call.group().trim() + " answered " + answer + " in: " + calls);
                }
            }
            end = call.end();
        }
    }

    /** The answer of a call such as "join(0, 1, 2)". */
    static int answer(TextDelta x, String call) {
        Matcher parts = CALL.matcher(call);
        if (!parts.matches() || parts.group(3) != null) {
            throw new IllegalArgumentException("not a call: " + call);
        }
        return answer(x, parts.group(1), numbers(parts.group(2)));
    }

    private static int[] numbers(String list) {
        if (list.isBlank()) {
            return new int[0];
        }
        String[] texts = list.split(",");
        int[] numbers = new int[texts.length];
        for (int i = 0; i < texts.length; i++) {
            numbers[i] = Integer.parseInt(texts[i].trim());
        }
        return numbers;
    }

    static String text(String name, int... v) {
        StringBuilder call = new StringBuilder(name + "(");
        for (int i = 0; i < v.length; i++) {
            call.append(i == 0 ? "" : ", ").append(v[i]);
        }
        return call.append(')').toString();
    }

    /** A boolean counts 1 or 0, and a call without an answer 0. */
    static int answer(TextDelta x, String name, int[] v) {
        switch (name) {
            case "begin": return x.begin(v[0]);
            case "keep": return x.keep(v[0]);
            case "drop": return x.drop(v[0]);
            case "add": return x.add(v[0]);
            case "finish": return x.finish(v[0]);
            case "join": return x.join(v[0], v[1], v[2]);
            case "carry": return x.carry(v[0], v[1], v[2], v[3]);
            case "apply": return x.apply(v[0], v[1]);
            case "type": return x.type(v[0]);
            case "clear": x.clear(); return 0;
            case "length": return x.length();
            case "at": return x.at(v[0]);
            case "inLength": return x.inLength(v[0]);
            case "outLength": return x.outLength(v[0]);
            case "runs": return x.runs(v[0]);
            case "run": return x.run(v[0], v[1]);
            case "added": return x.added(v[0], v[1]);
            case "same": return x.same(v[0], v[1]) ? 1 : 0;
            default: throw new IllegalArgumentException("no such call: " + name);
        }
    }
}
