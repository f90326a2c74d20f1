/** Promise 8: carry. */
public final class CarryTest {
    private static final Check check = new Check();

    public static void main(String[] args) {
        newItemsOfOneGapStandInTheOrderAskedFor();
        aPlaceDroppedByEitherIsGone();
        newItemsBelongToTheKeptPlaceBeforeThem();
        bothWaysLeadToTheSameText();
        resultMayGoToASource();
        oneSlotMayBeAllThree();
        check.end();
    }

    private static TextDelta two(String a, String b, int m) {
        TextDelta x = new TextDelta();
        Check.make(x, 0, m, a);
        Check.make(x, 1, m, b);
        return x;
    }

    private static void newItemsOfOneGapStandInTheOrderAskedFor() {
        TextDelta x = two("a1 a2 k1 a3", "a4 k1 a5 a6", 2);
        check.due("carry(0, 1, 1, 2)", x.carry(0, 1, 1, 2), 8);
        check.due("a first", Check.delta(x, 2), "5>8 A2 K2 A1 K3 +123");
        check.due("carry(0, 1, 0, 3)", x.carry(0, 1, 0, 3), 8);
        check.due("b first", Check.delta(x, 3), "5>8 K1 A2 K3 A1 K1 +123");
        check.due("slot 0 stays", Check.delta(x, 0), "2>5 A2 K1 A1 K1 +123");
        check.due("slot 1 stays", Check.delta(x, 1), "2>5 A1 K1 A2 K1 +456");
        for (int aFirst : new int[] {-1, 2, 5, Integer.MIN_VALUE, Integer.MAX_VALUE}) {
            check.due("carry(0, 1, " + aFirst + ", 3)", x.carry(0, 1, aFirst, 3), 8);
            check.due("same(2, 3)", x.same(2, 3), true);
        }
    }

    private static void aPlaceDroppedByEitherIsGone() {
        TextDelta x = two("d1 k1 d1 k2", "d2 k1 a7 k1 d1", 5);
        check.due("carry(0, 1, 1, 2)", x.carry(0, 1, 1, 2), 2);
        check.due("slot 2", Check.delta(x, 2), "3>2 D1 K2 +");
        check.due("carry(1, 0, 1, 2)", x.carry(1, 0, 1, 2), 2);
        check.due("slot 2", Check.delta(x, 2), "3>2 A1 D1 K1 D1 +7");
    }

    // a's 3 stands behind KEPT 0, so it comes before b's 4, which stands behind
    // KEPT 2, although a's 3 was added after the places 1 and 2 were dropped.
    private static void newItemsBelongToTheKeptPlaceBeforeThem() {
        TextDelta x = two("k1 d2 a3 k1", "k3 a4 k1", 4);
        check.due("carry(0, 1, 0, 2)", x.carry(0, 1, 0, 2), 4);
        check.due("slot 2", Check.delta(x, 2), "5>4 K1 A1 D2 K2 +3");
        check.due("carry(1, 0, 0, 3)", x.carry(1, 0, 0, 3), 4);
        check.due("slot 3", Check.delta(x, 3), "3>4 K2 A1 K1 +4");
        TextDelta y = two("d4 a3", "k4 a4", 4);
        y.carry(0, 1, 0, 2);
        check.due("gap 0", Check.delta(y, 2), "5>2 A1 D4 K1 +3");
    }

    private static void bothWaysLeadToTheSameText() {
        TextDelta x = two("a1 k1 a2 d2 k1 a3", "k1 a4 d1 a5 k1 a6 a7 d1", 5);
        x.carry(0, 1, 1, 2);
        x.carry(1, 0, 0, 3);
        x.join(1, 2, 1);
        x.join(0, 3, 0);
        check.due("same(0, 1)", x.same(0, 1), true);
        check.due("slot 0", Check.delta(x, 0), "5>9 A1 K1 A6 D3 K1 +1245673");
    }

    private static void resultMayGoToASource() {
        String due = "5>8 A2 K2 A1 K3 +123";
        TextDelta x = two("a1 a2 k1 a3", "a4 k1 a5 a6", 2);
        check.due("carry(0, 1, 1, 0)", x.carry(0, 1, 1, 0), 8);
        check.due("slot 0", Check.delta(x, 0), due);
        check.due("slot 1 stays", Check.delta(x, 1), "2>5 A1 K1 A2 K1 +456");
        TextDelta y = two("a1 a2 k1 a3", "a4 k1 a5 a6", 2);
        check.due("carry(0, 1, 1, 1)", y.carry(0, 1, 1, 1), 8);
        check.due("slot 1", Check.delta(y, 1), due);
        check.due("slot 0 stays", Check.delta(y, 0), "2>5 A2 K1 A1 K1 +123");
    }

    private static void oneSlotMayBeAllThree() {
        TextDelta x = two("a1 k1 d1 a2", "a1 k1 d1 a2", 3);
        check.due("carry(0, 0, 1, 0)", x.carry(0, 0, 1, 0), 6);
        check.due("slot 0", Check.delta(x, 0), "4>6 A1 K2 A1 K2 +12");
        check.due("carry(1, 1, 0, 1)", x.carry(1, 1, 0, 1), 6);
        check.due("slot 1", Check.delta(x, 1), "4>6 K1 A1 K2 A1 K1 +12");
    }
}
