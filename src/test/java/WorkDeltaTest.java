/** Promises 2 to 6: begin, keep, drop, add, finish. */
public final class WorkDeltaTest {
    private static final Check check = new Check();

    public static void main(String[] args) {
        beginTakes0To40();
        beginForgetsTheOldWork();
        refusedBeginKeepsTheWork();
        keepAppendsTheNextOldPlaces();
        keepTestsInOrder();
        dropAnswersUsedPlaces();
        dropTestsInOrder();
        addTakesLettersUpToTheLimit();
        finishKeepsTheRest();
        finishLeavesTheWork();
        finishTestsInOrder();
        check.end();
    }

    private static void beginTakes0To40() {
        TextDelta x = new TextDelta();
        check.due("begin(-1)", x.begin(-1), TextDelta.BAD_ARG);
        check.due("begin(41)", x.begin(41), TextDelta.BAD_ARG);
        check.due("begin(least)", x.begin(Integer.MIN_VALUE), TextDelta.BAD_ARG);
        check.due("begin(greatest)", x.begin(Integer.MAX_VALUE), TextDelta.BAD_ARG);
        check.due("begin(40)", x.begin(40), 0);
        check.due("finish(0)", x.finish(0), 40);
        check.due("slot 0", Check.delta(x, 0), "40>40 K40 +");
        check.due("begin(0)", x.begin(0), 0);
        check.due("finish(0)", x.finish(0), 0);
        check.due("slot 0", Check.delta(x, 0), "0>0 +");
    }

    private static void beginForgetsTheOldWork() {
        TextDelta x = new TextDelta();
        x.begin(6);
        Check.work(x, "a1 k2 d3");
        x.finish(1);
        check.due("begin(4)", x.begin(4), 0);
        check.due("slot 1 stays", Check.delta(x, 1), "6>4 A1 K2 D3 K1 +1");
        check.due("keep(4)", x.keep(4), 4);
        check.due("finish(0)", x.finish(0), 4);
        check.due("slot 0", Check.delta(x, 0), "4>4 K4 +");
    }

    private static void refusedBeginKeepsTheWork() {
        TextDelta x = new TextDelta();
        x.begin(6);
        Check.work(x, "a1 k2 d3");
        x.begin(41);
        x.begin(-1);
        check.due("finish(0)", x.finish(0), 4);
        check.due("slot 0", Check.delta(x, 0), "6>4 A1 K2 D3 K1 +1");
    }

    private static void keepAppendsTheNextOldPlaces() {
        TextDelta x = new TextDelta();
        x.begin(7);
        check.due("keep(2)", x.keep(2), 2);
        x.drop(1);
        x.add(9);
        check.due("keep(3)", x.keep(3), 6);
        check.due("keep(1)", x.keep(1), 7);
        check.due("keep(1)", x.keep(1), TextDelta.BAD_LENGTH);
        x.finish(0);
        check.due("slot 0", Check.delta(x, 0), "7>7 K2 A1 D1 K4 +9");
        Check.type(x, "0123456");
        x.apply(0, 0);
        check.due("document", Check.document(x), "0193456");
    }

    private static void keepTestsInOrder() {
        TextDelta x = new TextDelta();
        x.begin(40);
        Check.work(x, Check.adds(39, 1));
        check.due("keep(0)", x.keep(0), TextDelta.BAD_ARG);
        check.due("keep(-1)", x.keep(-1), TextDelta.BAD_ARG);
        check.due("keep(least)", x.keep(Integer.MIN_VALUE), TextDelta.BAD_ARG);
        check.due("keep(41)", x.keep(41), TextDelta.BAD_LENGTH);
        check.due("keep(greatest)", x.keep(Integer.MAX_VALUE), TextDelta.BAD_LENGTH);
        check.due("keep(40)", x.keep(40), TextDelta.FULL);
        check.due("keep(2)", x.keep(2), TextDelta.FULL);
        check.due("keep(1)", x.keep(1), 40);
        check.due("keep(40)", x.keep(40), TextDelta.BAD_LENGTH);
        check.due("keep(39)", x.keep(39), TextDelta.FULL);
        check.due("keep(1)", x.keep(1), TextDelta.FULL);
        check.due("keep(0)", x.keep(0), TextDelta.BAD_ARG);
        check.due("drop(39)", x.drop(39), 40);
        x.finish(0);
        check.due("slot 0", Check.delta(x, 0), "40>40 A39 K1 D39 +" + "1".repeat(39));
    }

    private static void dropAnswersUsedPlaces() {
        TextDelta x = new TextDelta();
        x.begin(8);
        check.due("drop(2)", x.drop(2), 2);
        x.keep(3);
        x.add(1);
        check.due("drop(1)", x.drop(1), 6);
        check.due("drop(2)", x.drop(2), 8);
        x.finish(0);
        check.due("slot 0", Check.delta(x, 0), "8>4 D2 K3 A1 D3 +1");
    }

    private static void dropTestsInOrder() {
        TextDelta x = new TextDelta();
        x.begin(5);
        x.keep(2);
        check.due("drop(0)", x.drop(0), TextDelta.BAD_ARG);
        check.due("drop(-3)", x.drop(-3), TextDelta.BAD_ARG);
        check.due("drop(least)", x.drop(Integer.MIN_VALUE), TextDelta.BAD_ARG);
        check.due("drop(4)", x.drop(4), TextDelta.BAD_LENGTH);
        check.due("drop(greatest)", x.drop(Integer.MAX_VALUE), TextDelta.BAD_LENGTH);
        check.due("drop(3)", x.drop(3), 5);
        check.due("drop(1)", x.drop(1), TextDelta.BAD_LENGTH);
        check.due("drop(0)", x.drop(0), TextDelta.BAD_ARG);
        x.begin(40);
        Check.work(x, Check.adds(40, 1));
        check.due("drop(40) with a full list", x.drop(40), 40);
    }

    private static void addTakesLettersUpToTheLimit() {
        TextDelta x = new TextDelta();
        x.begin(2);
        check.due("add(-1)", x.add(-1), TextDelta.BAD_ARG);
        check.due("add(10)", x.add(10), TextDelta.BAD_ARG);
        check.due("add(0)", x.add(0), 1);
        check.due("add(9)", x.add(9), 2);
        check.due("keep(2)", x.keep(2), 4);
        for (int n = 5; n <= 40; n++) {
            check.due("add(3)", x.add(3), n);
        }
        check.due("add(3)", x.add(3), TextDelta.FULL);
        check.due("add(10)", x.add(10), TextDelta.BAD_ARG);
        check.due("add(-1)", x.add(-1), TextDelta.BAD_ARG);
        check.due("finish(0)", x.finish(0), 40);
        check.due("slot 0", Check.delta(x, 0), "2>40 A2 K2 A36 +09" + "3".repeat(36));
    }

    private static void finishKeepsTheRest() {
        TextDelta x = new TextDelta();
        x.begin(6);
        Check.work(x, "d1 k1 a4");
        for (int slot = 0; slot < 4; slot++) {
            check.due("finish(" + slot + ")", x.finish(slot), 6);
            check.due("slot " + slot, Check.delta(x, slot), "6>6 D1 K1 A1 K4 +4");
        }
    }

    private static void finishLeavesTheWork() {
        TextDelta x = new TextDelta();
        x.begin(6);
        Check.work(x, "k1 a4");
        check.due("finish(0)", x.finish(0), 7);
        check.due("finish(1)", x.finish(1), 7);
        check.due("same(0, 1)", x.same(0, 1), true);
        check.due("drop(2)", x.drop(2), 3);
        check.due("keep(1)", x.keep(1), 3);
        check.due("add(5)", x.add(5), 4);
        check.due("finish(1)", x.finish(1), 6);
        check.due("slot 0", Check.delta(x, 0), "6>7 K1 A1 K5 +4");
        check.due("slot 1", Check.delta(x, 1), "6>6 K1 A1 D2 K1 A1 K2 +45");
    }

    private static void finishTestsInOrder() {
        TextDelta x = new TextDelta();
        Check.make(x, 0, 2, "a1");
        x.begin(40);
        x.add(1);
        check.due("finish(-1)", x.finish(-1), TextDelta.BAD_ARG);
        check.due("finish(4)", x.finish(4), TextDelta.BAD_ARG);
        check.due("finish(0)", x.finish(0), TextDelta.FULL);
        check.due("slot 0 stays", Check.delta(x, 0), "2>3 A1 K2 +1");
        check.due("the work stays", x.add(2), 2);
        x.drop(1);
        check.due("finish(0)", x.finish(0), TextDelta.FULL);
        x.drop(1);
        check.due("finish(0)", x.finish(0), 40);
        check.due("slot 0", Check.delta(x, 0), "40>40 A2 D2 K38 +12");
    }
}
