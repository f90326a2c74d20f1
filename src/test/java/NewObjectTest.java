/** Promise 1: a new object. */
public final class NewObjectTest {
    private static final Check check = new Check();

    public static void main(String[] args) {
        documentAndSlotsAreEmpty();
        nothingIsThereToBeSeen();
        workDeltaIsEmpty();
        objectsAreApart();
        check.end();
    }

    private static void documentAndSlotsAreEmpty() {
        TextDelta x = new TextDelta();
        check.due("state", Check.state(x), "\"\" [0>0 +] [0>0 +] [0>0 +] [0>0 +]");
    }

    private static void nothingIsThereToBeSeen() {
        check.refused("", "at(0)", TextDelta.NONE);
        for (int slot = 0; slot < 4; slot++) {
            check.taken("", Calls.text("inLength", slot), 0);
            check.taken("", Calls.text("outLength", slot), 0);
            check.taken("", Calls.text("runs", slot), 0);
            check.refused("", Calls.text("run", slot, 0), TextDelta.NONE);
            check.refused("", Calls.text("added", slot, 0), TextDelta.NONE);
            check.taken("", Calls.text("same", 0, slot), 1);
            check.taken("", Calls.text("apply", slot, 3 - slot), 0);
        }
    }

    private static void workDeltaIsEmpty() {
        check.due("the work", Check.workOf(new TextDelta()), "0 0>0 +");
        check.refused("", "keep(1)", TextDelta.BAD_LENGTH);
        check.refused("", "drop(1)", TextDelta.BAD_LENGTH);
        TextDelta x = check.taken("", "finish(2)", 0, "slot 2");
        check.due("slot 2", Check.delta(x, 2), "0>0 +");
        x = check.taken("add(4)", "finish(2)", 1, "slot 2");
        check.due("slot 2", Check.delta(x, 2), "0>1 A1 +4");
    }

    private static void objectsAreApart() {
        TextDelta x = new TextDelta();
        TextDelta y = new TextDelta();
        x.type(5);
        Check.make(x, 0, 3, "a1");
        check.due("y", Check.state(y), "\"\" [0>0 +] [0>0 +] [0>0 +] [0>0 +]");
        check.due("y add(1)", y.add(1), 1);
    }
}
