/** Promise 7: join. */
public final class JoinTest {
    private static final Check check = new Check();

    public static void main(String[] args) {
        joinDoesOneAndThenTheOther();
        resultMayGoToASource();
        oneSlotMayBeAllThree();
        check.end();
    }

    private static TextDelta two() {
        TextDelta x = new TextDelta();
        Check.make(x, 0, 5, "a7 k2 d1 a8");
        Check.make(x, 1, 6, "d1 k2 a9 k1 d1");
        return x;
    }

    private static void joinDoesOneAndThenTheOther() {
        TextDelta x = two();
        check.due("join(0, 1, 2)", x.join(0, 1, 2), 5);
        check.due("slot 2", Check.delta(x, 2), "5>5 K2 A2 D2 K1 +98");
        check.due("slot 0 stays", Check.delta(x, 0), "5>6 A1 K2 A1 D1 K2 +78");
        check.due("slot 1 stays", Check.delta(x, 1), "6>5 D1 K2 A1 K1 D1 K1 +9");
        Check.type(x, "12345");
        x.apply(2, 3);
        check.due("document", Check.document(x), "12985");
    }

    private static void resultMayGoToASource() {
        TextDelta x = two();
        check.due("join(0, 1, 0)", x.join(0, 1, 0), 5);
        check.due("slot 0", Check.delta(x, 0), "5>5 K2 A2 D2 K1 +98");
        TextDelta y = two();
        check.due("join(0, 1, 1)", y.join(0, 1, 1), 5);
        check.due("slot 1", Check.delta(y, 1), "5>5 K2 A2 D2 K1 +98");
        check.due("slot 0 stays", Check.delta(y, 0), "5>6 A1 K2 A1 D1 K2 +78");
    }

    private static void oneSlotMayBeAllThree() {
        TextDelta x = new TextDelta();
        Check.make(x, 3, 4, "a1 k1 d1");
        check.due("join(3, 3, 3)", x.join(3, 3, 3), 4);
        check.due("slot 3", Check.delta(x, 3), "4>4 A2 D2 K2 +11");
        Check.make(x, 2, 4, "a5 k1 a6 d2");
        check.due("join(2, 2, 2)", x.join(2, 2, 2), 4);
        check.due("slot 2", Check.delta(x, 2), "4>4 A3 D3 K1 +556");
    }
}
