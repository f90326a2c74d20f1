import java.util.LinkedHashMap;
import java.util.List;
import java.util.Map;

/** What the tests share: counting wrong answers, and making and reading deltas. */
final class Check {
    private static final String KINDS = "?KDA";
    private static final int MOST = 40;

    private int wrong = 0;

    void due(String call, long got, long want) {
        if (got != want) {
            tell(call, String.valueOf(got), String.valueOf(want));
        }
    }

    void due(String call, boolean got, boolean want) {
        if (got != want) {
            tell(call, String.valueOf(got), String.valueOf(want));
        }
    }

    void due(String call, String got, String want) {
        if (!got.equals(want)) {
            tell(call, got, want);
        }
    }

    private void tell(String call, String got, String want) {
        wrong++;
        System.out.println(call + " answered " + got + ", due is " + want);
    }

    void end() {
        System.out.println(wrong == 0 ? "all answers are as due" : wrong + " answers are not as due");
        if (wrong != 0) {
            System.exit(1);
        }
    }

    /**
     * Makes a delta of in length m in the slot. A script such as "k2 d1 a7" is
     * keep(2), drop(1), add(7); what it leaves of the old text is kept.
     */
    static int make(TextDelta x, int slot, int m, String script) {
        x.begin(m);
        work(x, script);
        return x.finish(slot);
    }

    static void work(TextDelta x, String script) {
        for (String step : script.split(" ")) {
            if (step.isEmpty()) {
                continue;
            }
            int n = Integer.parseInt(step.substring(1));
            switch (step.charAt(0)) {
                case 'k': x.keep(n); break;
                case 'd': x.drop(n); break;
                default: x.add(n); break;
            }
        }
    }

    /** The letter c, n times, as a script. */
    static String adds(int n, int c) {
        return ("a" + c + " ").repeat(n);
    }

    static void type(TextDelta x, String letters) {
        for (char c : letters.toCharArray()) {
            x.type(c - '0');
        }
    }

    static String document(TextDelta x) {
        StringBuilder text = new StringBuilder();
        int length = x.length();
        for (int i = 0; i < length; i++) {
            text.append(x.at(i));
        }
        return text.toString();
    }

    /** In length, out length, runs and letters: "5>6 K2 A2 D1 K2 +78". */
    static String delta(TextDelta x, int slot) {
        StringBuilder text = new StringBuilder();
        text.append(x.inLength(slot)).append('>').append(x.outLength(slot));
        int runs = x.runs(slot);
        for (int i = 0; i < runs; i++) {
            int run = x.run(slot, i);
            text.append(' ').append(KINDS.charAt(run & 3)).append(run >> 2);
        }
        text.append(" +");
        int letter = x.added(slot, 0);
        for (int i = 1; i <= MOST && letter != TextDelta.NONE; i++) {
            text.append(letter);
            letter = x.added(slot, i);
        }
        return text.toString();
    }

    /**
     * The work delta, with all that it has not used dropped: "3 6>3 K2 A1 D4 +9"
     * has used 3 of 6 old places. Looking uses the work delta and slot 3 up.
     */
    static String workOf(TextDelta x) {
        int left = 0;
        while (left < MOST && x.drop(1) >= 0) {
            left++;
        }
        x.finish(3);
        return (x.inLength(3) - left) + " " + delta(x, 3);
    }

    /**
     * All that an object holds after the calls and then the call, part by part,
     * each seen on an object of its own.
     */
    private static Map<String, String> parts(String calls, String call) {
        Map<String, String> parts = new LinkedHashMap<>();
        parts.put("the document", document(after(calls, call)));
        for (int slot = 0; slot < 4; slot++) {
            parts.put("slot " + slot, delta(after(calls, call), slot));
        }
        parts.put("the work", workOf(after(calls, call)));
        return parts;
    }

    private static TextDelta after(String calls, String call) {
        TextDelta x = Calls.after(calls);
        if (!call.isEmpty()) {
            Calls.answer(x, call);
        }
        return x;
    }

    /** After the calls, the call has this answer and changes nothing. */
    void refused(String calls, String call, int answer) {
        taken(calls, call, answer);
    }

    /** After the calls, the call has this answer and changes no other parts than these. */
    TextDelta taken(String calls, String call, int answer, String... changed) {
        TextDelta x = Calls.after(calls);
        due(calls + " " + call, Calls.answer(x, call), answer);
        Map<String, String> before = parts(calls, "");
        parts(calls, call).forEach((part, now) -> {
            if (!List.of(changed).contains(part)) {
                due(calls + " " + call + ": " + part, now, before.get(part));
            }
        });
        return x;
    }

    /** All that can be seen of the object, but for its work delta. */
    static String state(TextDelta x) {
        StringBuilder text = new StringBuilder("\"" + document(x) + "\"");
        for (int slot = 0; slot < 4; slot++) {
            text.append(" [").append(delta(x, slot)).append(']');
        }
        return text.toString();
    }
}
