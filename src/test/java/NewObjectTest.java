/** Promise 1: a new object. */
public final class NewObjectTest {
    private static final Check check = new Check();

    public static void main(String[] args) {
        documentAndSlotsAreEmpty();
        workDeltaIsEmpty();
        objectsAreApart();
        check.end();
    }

    private static void documentAndSlotsAreEmpty() {
        TextDelta x = new TextDelta();
        check.due("state", Check.state(x), "\"\" [0>0 +] [0>0 +] [0>0 +] [0>0 +]");
        check.due("at(0)", x.at(0), TextDelta.NONE);
        check.due("same(0, 3)", x.same(0, 3), true);
        check.due("apply(0, 1)", x.apply(0, 1), 0);
    }

    private static void workDeltaIsEmpty() {
        TextDelta x = new TextDelta();
        check.due("keep(1)", x.keep(1), TextDelta.BAD_LENGTH);
        check.due("drop(1)", x.drop(1), TextDelta.BAD_LENGTH);
        check.due("finish(2)", x.finish(2), 0);
        check.due("inLength(2)", x.inLength(2), 0);
        check.due("add(4)", x.add(4), 1);
        check.due("finish(2)", x.finish(2), 1);
        check.due("slot 2", Check.delta(x, 2), "0>1 A1 +4");
    }

    private static void objectsAreApart() {
        TextDelta x = new TextDelta();
        TextDelta y = new TextDelta();
        x.type(5);
        Check.make(x, 0, 3, "a1");
        check.due("y", Check.state(y), "\"\" [0>0 +] [0>0 +] [0>0 +] [0>0 +]");
        check.due("y add(1)", y.add(1), 1);
    }
}
