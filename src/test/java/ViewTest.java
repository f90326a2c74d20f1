/** Promises 14 to 20: inLength, outLength, runs, run, added, same, and the order of tests. */
public final class ViewTest {
    private static final Check check = new Check();

    public static void main(String[] args) {
        lengths();
        runsOfThePrintedForm();
        addsComeBeforeTheDropsThatFollowAKeep();
        addedCountsNewItemsAlone();
        sameComparesInLengthAndItems();
        check.end();
    }

    private static void lengths() {
        TextDelta x = new TextDelta();
        Check.make(x, 1, 7, "d3 a1");
        Check.make(x, 3, 40, "");
        check.due("inLength(0)", x.inLength(0), 0);
        check.due("outLength(0)", x.outLength(0), 0);
        check.due("inLength(1)", x.inLength(1), 7);
        check.due("outLength(1)", x.outLength(1), 5);
        check.due("inLength(3)", x.inLength(3), 40);
        check.due("outLength(3)", x.outLength(3), 40);
    }

    private static void runsOfThePrintedForm() {
        TextDelta x = new TextDelta();
        check.due("runs(0)", x.runs(0), 0);
        Check.make(x, 0, 9, "a5 a6 k2 d1 d1 k1 a7 k1 k1 d2");
        check.due("runs(0)", x.runs(0), 7);
        check.due("run(0, 0)", x.run(0, 0), TextDelta.ADD + 8);
        check.due("run(0, 1)", x.run(0, 1), TextDelta.KEEP + 8);
        check.due("run(0, 2)", x.run(0, 2), TextDelta.DROP + 8);
        check.due("run(0, 3)", x.run(0, 3), TextDelta.KEEP + 4);
        check.due("run(0, 4)", x.run(0, 4), TextDelta.ADD + 4);
        check.due("run(0, 5)", x.run(0, 5), TextDelta.KEEP + 8);
        check.due("run(0, 6)", x.run(0, 6), TextDelta.DROP + 8);
    }

    private static void addsComeBeforeTheDropsThatFollowAKeep() {
        TextDelta x = new TextDelta();
        Check.make(x, 0, 4, "k1 d1 a5 d1 a6 k1");
        check.due("slot 0", Check.delta(x, 0), "4>4 K1 A2 D2 K1 +56");
        Check.make(x, 1, 4, "d2 a5 d2 a6");
        check.due("slot 1", Check.delta(x, 1), "4>2 A2 D4 +56");
        Check.make(x, 2, 3, "d1 a5");
        check.due("slot 2", Check.delta(x, 2), "3>3 A1 D1 K2 +5");
    }

    private static void addedCountsNewItemsAlone() {
        TextDelta x = new TextDelta();
        Check.make(x, 2, 6, "k2 a0 k1 a9 a4 d1 a3");
        check.due("added(2, 0)", x.added(2, 0), 0);
        check.due("added(2, 1)", x.added(2, 1), 9);
        check.due("added(2, 2)", x.added(2, 2), 4);
        check.due("added(2, 3)", x.added(2, 3), 3);
        check.due("added(2, 4)", x.added(2, 4), TextDelta.NONE);
    }

    private static void sameComparesInLengthAndItems() {
        TextDelta x = new TextDelta();
        Check.make(x, 0, 4, "k1 a5 d1 a6");
        check.due("same(0, 0)", x.same(0, 0), true);
        Check.make(x, 1, 4, "k1 d1 a5 a6 k2");
        check.due("made in another way", x.same(0, 1), true);
        check.due("made in another way", x.same(1, 0), true);
        Check.make(x, 1, 5, "k1 a5 d1 a6 k2 d1");
        check.due("another in length", x.same(0, 1), false);
        Check.make(x, 1, 4, "k1 a5 d1 a6 k1 d1");
        check.due("a shorter list", x.same(0, 1), false);
        check.due("a longer list", x.same(1, 0), false);
        Check.make(x, 1, 4, "k1 a5 d1 a7");
        check.due("another letter", x.same(0, 1), false);
        Check.make(x, 1, 4, "k1 a5 k1 a6 d1");
        check.due("another kept place", x.same(0, 1), false);
        Check.make(x, 1, 4, "k1 a5 d1 k1 a6");
        check.due("another order", x.same(0, 1), false);
        Check.make(x, 2, 2, "d1");
        Check.make(x, 3, 2, "d2 a1");
        check.due("KEPT 1 is not NEW 1", x.same(2, 3), false);
        Check.make(x, 2, 4, "d4 a0");
        Check.make(x, 3, 4, "k1 d3");
        check.due("KEPT 0 is not NEW 0", x.same(2, 3), false);
    }
}
