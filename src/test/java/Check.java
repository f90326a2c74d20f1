/** What the tests share: counting wrong answers, and making and reading deltas. */
final class Check {
    private static final String KINDS = "?KDA";

    private int wrong = 0;

    void due(String call, long got, long want) {
        if (got != want) {
            tell(call, String.valueOf(got), String.valueOf(want));
        }
    }

    void due(String call, boolean got, boolean want) {
        if (got != want) {
            tell(call, String.valueOf(got), String.valueOf(want));
        }
    }

    void due(String call, String got, String want) {
        if (!got.equals(want)) {
            tell(call, got, want);
        }
    }

    private void tell(String call, String got, String want) {
        wrong++;
        System.out.println(call + " answered " + got + ", due is " + want);
    }

    void end() {
        System.out.println(wrong == 0 ? "all answers are as due" : wrong + " answers are not as due");
        if (wrong != 0) {
            System.exit(1);
        }
    }

    /**
     * Makes a delta of in length m in the slot. A script such as "k2 d1 a7" is
     * keep(2), drop(1), add(7); what it leaves of the old text is kept.
     */
    static int make(TextDelta x, int slot, int m, String script) {
        x.begin(m);
        work(x, script);
        return x.finish(slot);
    }

    static void work(TextDelta x, String script) {
        for (String step : script.split(" ")) {
            if (step.isEmpty()) {
                continue;
            }
            int n = Integer.parseInt(step.substring(1));
            switch (step.charAt(0)) {
                case 'k': x.keep(n); break;
                case 'd': x.drop(n); break;
                default: x.add(n); break;
            }
        }
    }

    /** The letter c, n times, as a script. */
    static String adds(int n, int c) {
        return ("a" + c + " ").repeat(n);
    }

    static void type(TextDelta x, String letters) {
        for (char c : letters.toCharArray()) {
            x.type(c - '0');
        }
    }

    static String document(TextDelta x) {
        StringBuilder text = new StringBuilder();
        for (int i = 0; i < x.length(); i++) {
            text.append(x.at(i));
        }
        return text.toString();
    }

    /** In length, out length, runs and letters: "5>6 K2 A2 D1 K2 +78". */
    static String delta(TextDelta x, int slot) {
        StringBuilder text = new StringBuilder();
        text.append(x.inLength(slot)).append('>').append(x.outLength(slot));
        int runs = x.runs(slot);
        for (int i = 0; i < runs; i++) {
            int run = x.run(slot, i);
            text.append(' ').append(KINDS.charAt(run & 3)).append(run >> 2);
        }
        text.append(" +");
        for (int i = 0; x.added(slot, i) != TextDelta.NONE; i++) {
            text.append(x.added(slot, i));
        }
        return text.toString();
    }

    /** All that can be seen of the object, but for its work delta. */
    static String state(TextDelta x) {
        StringBuilder text = new StringBuilder("\"" + document(x) + "\"");
        for (int slot = 0; slot < 4; slot++) {
            text.append(" [").append(delta(x, slot)).append(']');
        }
        return text.toString();
    }
}
