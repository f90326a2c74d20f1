/** Promise 9: apply. */
public final class ApplyTest {
    private static final Check check = new Check();

    public static void main(String[] args) {
        applyChangesTheDocumentAndGivesTheWayBack();
        theWayBackLeadsBack();
        slotAndBackMayBeTheSame();
        lettersMoveBothWays();
        check.end();
    }

    private static void applyChangesTheDocumentAndGivesTheWayBack() {
        TextDelta x = new TextDelta();
        Check.type(x, "12345");
        Check.make(x, 0, 5, "a9 k1 d2 a8 a7 k1 d1");
        check.due("apply(0, 1)", x.apply(0, 1), 5);
        check.due("document", Check.document(x), "91874");
        check.due("slot 0 stays", Check.delta(x, 0), "5>5 A1 K1 A2 D2 K1 D1 +987");
        check.due("slot 1", Check.delta(x, 1), "5>5 D1 K1 A2 D2 K1 A1 +235");
    }

    private static void theWayBackLeadsBack() {
        TextDelta x = new TextDelta();
        Check.type(x, "314159");
        Check.make(x, 2, 6, "d1 k2 a0 d1 k1 a6 a6");
        check.due("apply(2, 3)", x.apply(2, 3), 7);
        check.due("document", Check.document(x), "1405669");
        check.due("apply(3, 2)", x.apply(3, 2), 6);
        check.due("document", Check.document(x), "314159");
        check.due("slot 2", Check.delta(x, 2), "6>7 D1 K2 A1 D1 K1 A2 K1 +066");
        check.due("apply(2, 2)", x.apply(2, 2), 7);
        check.due("document", Check.document(x), "1405669");
    }

    private static void slotAndBackMayBeTheSame() {
        TextDelta x = new TextDelta();
        Check.type(x, "123");
        Check.make(x, 1, 3, "d1 k1 a5 a6");
        check.due("apply(1, 1)", x.apply(1, 1), 4);
        check.due("document", Check.document(x), "2563");
        check.due("slot 1", Check.delta(x, 1), "4>3 A1 K1 D2 K1 +1");
        check.due("apply(1, 1)", x.apply(1, 1), 3);
        check.due("document", Check.document(x), "123");
        check.due("slot 1", Check.delta(x, 1), "3>4 D1 K1 A2 K1 +56");
    }

    private static void lettersMoveBothWays() {
        TextDelta x = new TextDelta();
        Check.type(x, "0123456789");
        Check.make(x, 0, 10, "a9 a8 a7 k3 d5 k1 a6");
        check.due("apply(0, 3)", x.apply(0, 3), 9);
        check.due("document", Check.document(x), "987012869");
        check.due("apply(3, 3)", x.apply(3, 3), 10);
        check.due("document", Check.document(x), "0123456789");
    }
}
