/** Promise 7: join. */
public final class JoinTest {
    private static final Check check = new Check();

    public static void main(String[] args) {
        joinDoesOneAndThenTheOther();
        joinAtTheLimit();
        resultMayGoToASource();
        oneSlotMayBeAllThree();
        joinTestsInOrder();
        check.end();
    }

    private static TextDelta two() {
        TextDelta x = new TextDelta();
        Check.make(x, 0, 5, "a7 k2 d1 a8");
        Check.make(x, 1, 6, "d1 k2 a9 k1 d1");
        return x;
    }

    private static void joinDoesOneAndThenTheOther() {
        TextDelta x = two();
        check.due("join(0, 1, 2)", x.join(0, 1, 2), 5);
        check.due("slot 2", Check.delta(x, 2), "5>5 K2 A2 D2 K1 +98");
        check.due("slot 0 stays", Check.delta(x, 0), "5>6 A1 K2 A1 D1 K2 +78");
        check.due("slot 1 stays", Check.delta(x, 1), "6>5 D1 K2 A1 K1 D1 K1 +9");
        Check.type(x, "12345");
        x.apply(2, 3);
        check.due("document", Check.document(x), "12985");
    }

    private static void joinAtTheLimit() {
        TextDelta x = new TextDelta();
        Check.make(x, 0, 0, Check.adds(20, 1));
        Check.make(x, 1, 20, Check.adds(20, 2));
        check.due("join(0, 1, 2)", x.join(0, 1, 2), 40);
        check.due("slot 2", Check.delta(x, 2), "0>40 A40 +" + "2".repeat(20) + "1".repeat(20));
        Check.make(x, 3, 40, "d40");
        check.due("join(2, 3, 2)", x.join(2, 3, 2), 0);
        check.due("slot 2", Check.delta(x, 2), "0>0 +");
    }

    private static void resultMayGoToASource() {
        TextDelta x = two();
        check.due("join(0, 1, 0)", x.join(0, 1, 0), 5);
        check.due("slot 0", Check.delta(x, 0), "5>5 K2 A2 D2 K1 +98");
        TextDelta y = two();
        check.due("join(0, 1, 1)", y.join(0, 1, 1), 5);
        check.due("slot 1", Check.delta(y, 1), "5>5 K2 A2 D2 K1 +98");
        check.due("slot 0 stays", Check.delta(y, 0), "5>6 A1 K2 A1 D1 K2 +78");
    }

    private static void oneSlotMayBeAllThree() {
        TextDelta x = new TextDelta();
        Check.make(x, 3, 4, "a1 k1 d1");
        check.due("join(3, 3, 3)", x.join(3, 3, 3), 4);
        check.due("slot 3", Check.delta(x, 3), "4>4 A2 D2 K2 +11");
        Check.make(x, 2, 4, "a5 k1 a6 d2");
        check.due("join(2, 2, 2)", x.join(2, 2, 2), 4);
        check.due("slot 2", Check.delta(x, 2), "4>4 A3 D3 K1 +556");
    }

    private static void joinTestsInOrder() {
        TextDelta x = two();
        String before = Check.state(x);
        check.due("join(-1, 1, 2)", x.join(-1, 1, 2), TextDelta.BAD_ARG);
        check.due("join(4, 1, 2)", x.join(4, 1, 2), TextDelta.BAD_ARG);
        check.due("join(0, -1, 2)", x.join(0, -1, 2), TextDelta.BAD_ARG);
        check.due("join(0, 4, 2)", x.join(0, 4, 2), TextDelta.BAD_ARG);
        check.due("join(0, 1, -1)", x.join(0, 1, -1), TextDelta.BAD_ARG);
        check.due("join(0, 1, 4)", x.join(0, 1, 4), TextDelta.BAD_ARG);
        check.due("join(0, 0, 4)", x.join(0, 0, 4), TextDelta.BAD_ARG);
        check.due("join(0, 0, 2)", x.join(0, 0, 2), TextDelta.BAD_LENGTH);
        check.due("join(0, 2, 1)", x.join(0, 2, 1), TextDelta.BAD_LENGTH);
        check.due("join(2, 0, 0)", x.join(2, 0, 0), TextDelta.BAD_LENGTH);
        check.due("nothing changed", Check.state(x), before);
    }
}
