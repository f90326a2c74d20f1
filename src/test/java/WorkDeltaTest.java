/** Promises 2 to 6: begin, keep, drop, add, finish. */
public final class WorkDeltaTest {
    private static final Check check = new Check();

    public static void main(String[] args) {
        beginForgetsTheOldWork();
        keepAppendsTheNextOldPlaces();
        dropAnswersUsedPlaces();
        addAppendsLetters();
        finishKeepsTheRest();
        finishLeavesTheWork();
        check.end();
    }

    private static void beginForgetsTheOldWork() {
        TextDelta x = new TextDelta();
        x.begin(6);
        Check.work(x, "a1 k2 d3");
        x.finish(1);
        check.due("begin(4)", x.begin(4), 0);
        check.due("slot 1 stays", Check.delta(x, 1), "6>4 A1 K2 D3 K1 +1");
        check.due("keep(4)", x.keep(4), 4);
        check.due("finish(0)", x.finish(0), 4);
        check.due("slot 0", Check.delta(x, 0), "4>4 K4 +");
    }

    private static void keepAppendsTheNextOldPlaces() {
        TextDelta x = new TextDelta();
        x.begin(7);
        check.due("keep(2)", x.keep(2), 2);
        x.drop(1);
        x.add(9);
        check.due("keep(3)", x.keep(3), 6);
        check.due("keep(1)", x.keep(1), 7);
        check.due("keep(1)", x.keep(1), TextDelta.BAD_LENGTH);
        x.finish(0);
        check.due("slot 0", Check.delta(x, 0), "7>7 K2 A1 D1 K4 +9");
        Check.type(x, "0123456");
        x.apply(0, 0);
        check.due("document", Check.document(x), "0193456");
    }

    private static void dropAnswersUsedPlaces() {
        TextDelta x = new TextDelta();
        x.begin(8);
        check.due("drop(2)", x.drop(2), 2);
        x.keep(3);
        x.add(1);
        check.due("drop(1)", x.drop(1), 6);
        check.due("drop(2)", x.drop(2), 8);
        x.finish(0);
        check.due("slot 0", Check.delta(x, 0), "8>4 D2 K3 A1 D3 +1");
    }

    private static void addAppendsLetters() {
        TextDelta x = new TextDelta();
        x.begin(2);
        for (int c = 0; c <= 9; c++) {
            check.due("add(" + c + ")", x.add(c), c + 1);
        }
        check.due("keep(2)", x.keep(2), 12);
        check.due("add(3)", x.add(3), 13);
        x.finish(0);
        check.due("slot 0", Check.delta(x, 0), "2>13 A10 K2 A1 +01234567893");
    }

    private static void finishKeepsTheRest() {
        TextDelta x = new TextDelta();
        x.begin(6);
        Check.work(x, "d1 k1 a4");
        for (int slot = 0; slot < 4; slot++) {
            check.due("finish(" + slot + ")", x.finish(slot), 6);
            check.due("slot " + slot, Check.delta(x, slot), "6>6 D1 K1 A1 K4 +4");
        }
    }

    private static void finishLeavesTheWork() {
        TextDelta x = new TextDelta();
        x.begin(6);
        Check.work(x, "k1 a4");
        check.due("finish(0)", x.finish(0), 7);
        check.due("finish(1)", x.finish(1), 7);
        check.due("same(0, 1)", x.same(0, 1), true);
        check.due("drop(2)", x.drop(2), 3);
        check.due("keep(1)", x.keep(1), 3);
        check.due("add(5)", x.add(5), 4);
        check.due("finish(1)", x.finish(1), 6);
        check.due("slot 0", Check.delta(x, 0), "6>7 K1 A1 K5 +4");
        check.due("slot 1", Check.delta(x, 1), "6>6 K1 A1 D2 K1 A1 K2 +45");
    }
}
