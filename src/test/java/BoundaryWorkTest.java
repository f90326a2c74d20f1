/** The boundary cases of the promises 2 to 6: begin, keep, drop, add, finish. */
public final class BoundaryWorkTest {
    private static final Check check = new Check();
    private static final int LEAST = Integer.MIN_VALUE;
    private static final int GREATEST = Integer.MAX_VALUE;
    private static final String BUSY = Calls.BUSY;

    public static void main(String[] args) {
        beginRefusesLessThan0();
        beginRefusesMoreThan40();
        beginTakes0();
        beginTakes40();
        beginHasNoItemsAndNothingUsed();

        keepRefusesLessThan1();
        keepTakesAllThatIsLeftAndNoMore();
        keepOfNothingLeft();
        keepFillsTheListAndNoMore();
        keepTestsBadArgFirst();
        keepTestsBadLengthBeforeFull();
        keepGoesOnWhereTheUsedPlacesEnd();

        dropRefusesLessThan1();
        dropTakesAllThatIsLeftAndNoMore();
        dropOfNothingLeft();
        dropTestsBadArgFirst();
        dropIsNeverFull();

        addRefusesWhatIsNoLetter();
        addTakes0And9();
        addTakesThe40thItemAndNoMore();
        addTestsBadArgBeforeFull();

        finishRefusesWhatIsNoSlot();
        finishTakesTheFirstAndTheLastSlot();
        finishFillsTheListAndNoMore();
        finishTestsBadArgBeforeFull();
        finishFollowsUpToTheLastOldPlace();
        finishWithNothingLeftFollowsWithNothing();
        finishLeavesTheWorkAsItWas();
        finishPutsAShorterDeltaOverALongerOne();
        check.end();
    }

    // Promise 2: "BAD_ARG if m is not 0 to 40; else 0."

    private static void beginRefusesLessThan0() {
        check.refused(BUSY, Calls.text("begin", -1), TextDelta.BAD_ARG);
        check.refused(BUSY, Calls.text("begin", LEAST), TextDelta.BAD_ARG);
    }

    private static void beginRefusesMoreThan40() {
        check.refused(BUSY, Calls.text("begin", 41), TextDelta.BAD_ARG);
        check.refused(BUSY, Calls.text("begin", GREATEST), TextDelta.BAD_ARG);
    }

    private static void beginTakes0() {
        TextDelta x = check.taken(BUSY, "begin(0)", 0, "the work");
        check.due("the work", Check.workOf(x), "0 0>0 +");
    }

    private static void beginTakes40() {
        TextDelta x = check.taken(BUSY, "begin(40)", 0, "the work");
        check.due("the work", Check.workOf(x), "0 40>0 D40 +");
    }

    // "with no items and nothing of the old text used yet"
    private static void beginHasNoItemsAndNothingUsed() {
        TextDelta x = check.taken(BUSY, "begin(6)", 0, "the work");
        check.due("the work", Check.workOf(x), "0 6>0 D6 +");
        x = check.taken("begin(40) keep(40)", "begin(40)", 0, "the work");
        check.due("a full list before", Check.workOf(x), "0 40>0 D40 +");
        x = check.taken("begin(40) drop(40) add(1)*40", "begin(1)", 0, "the work");
        check.due("a full list before", Check.workOf(x), "0 1>0 D1 +");
    }

    // Promise 3: "k < 1 answers BAD_ARG"

    private static void keepRefusesLessThan1() {
        check.refused(BUSY, Calls.text("keep", 0), TextDelta.BAD_ARG);
        check.refused(BUSY, Calls.text("keep", -1), TextDelta.BAD_ARG);
        check.refused(BUSY, Calls.text("keep", LEAST), TextDelta.BAD_ARG);
        TextDelta x = check.taken(BUSY, "keep(1)", 4, "the work");
        check.due("the work", Check.workOf(x), "4 6>4 K2 A1 D1 K1 D2 +9");
    }

    // "k greater than the in length minus U answers BAD_LENGTH"

    private static void keepTakesAllThatIsLeftAndNoMore() {
        TextDelta x = check.taken(BUSY, "keep(3)", 6, "the work");
        check.due("the work", Check.workOf(x), "6 6>6 K2 A1 D1 K3 +9");
        check.refused(BUSY, "keep(4)", TextDelta.BAD_LENGTH);
        check.refused(BUSY, "keep(6)", TextDelta.BAD_LENGTH);
        check.refused(BUSY, Calls.text("keep", GREATEST), TextDelta.BAD_LENGTH);
        check.refused(BUSY, Calls.text("keep", GREATEST - 2), TextDelta.BAD_LENGTH);
        x = check.taken("begin(40)", "keep(40)", 40, "the work");
        check.due("the work", Check.workOf(x), "40 40>40 K40 +");
        check.refused("begin(40)", "keep(41)", TextDelta.BAD_LENGTH);
        check.refused("begin(40)", Calls.text("keep", GREATEST), TextDelta.BAD_LENGTH);
    }

    private static void keepOfNothingLeft() {
        check.refused("", "keep(1)", TextDelta.BAD_LENGTH);
        check.refused("begin(0)", "keep(1)", TextDelta.BAD_LENGTH);
        check.refused("begin(5) keep(5)", "keep(1)", TextDelta.BAD_LENGTH);
        check.refused("begin(5) drop(5)", "keep(1)", TextDelta.BAD_LENGTH);
    }

    // "the out list would have more than 40 items answers FULL"

    private static void keepFillsTheListAndNoMore() {
        TextDelta x = check.taken("begin(40) add(1)*39", "keep(1)", 40, "the work");
        check.due("the work", Check.workOf(x), "1 40>40 A39 K1 D39 +" + "1".repeat(39));
        check.refused("begin(40) add(1)*39", "keep(2)", TextDelta.FULL);
        check.refused("begin(40) add(1)*39", "keep(40)", TextDelta.FULL);
        x = check.taken("begin(40) drop(10) add(2)*20", "keep(20)", 40, "the work");
        check.due("the work", Check.workOf(x), "30 40>40 A20 D10 K20 D10 +" + "2".repeat(20));
        check.refused("begin(40) drop(10) add(2)*20", "keep(21)", TextDelta.FULL);
        check.refused("begin(40) drop(10) add(2)*20", "keep(30)", TextDelta.FULL);
        check.refused("begin(1) add(3)*40", "keep(1)", TextDelta.FULL);
        check.refused("begin(40) add(4) keep(39)", "keep(1)", TextDelta.FULL);
    }

    private static void keepTestsBadArgFirst() {
        check.refused("", "keep(0)", TextDelta.BAD_ARG);
        check.refused("begin(5) drop(5)", "keep(0)", TextDelta.BAD_ARG);
        check.refused("begin(5) drop(5)", "keep(-1)", TextDelta.BAD_ARG);
        check.refused("begin(5) add(1)*40", "keep(0)", TextDelta.BAD_ARG);
        check.refused("begin(5) drop(5) add(1)*40", Calls.text("keep", LEAST), TextDelta.BAD_ARG);
    }

    private static void keepTestsBadLengthBeforeFull() {
        check.refused("begin(40) add(1)*39", "keep(41)", TextDelta.BAD_LENGTH);
        check.refused("begin(2) add(1)*40", "keep(3)", TextDelta.BAD_LENGTH);
        check.refused("begin(2) add(1)*40", "keep(2)", TextDelta.FULL);
        check.refused("add(1)*40", "keep(1)", TextDelta.BAD_LENGTH);
        check.refused("begin(40) keep(40)", "keep(1)", TextDelta.BAD_LENGTH);
    }

    // "the items KEPT U, KEPT U + 1, .. KEPT U + k - 1": the letters tell which
    // old places they are.
    private static void keepGoesOnWhereTheUsedPlacesEnd() {
        String text = "type(0) type(1) type(2) type(3) type(4) type(5) type(6) ";
        TextDelta x = Calls.after(text + "begin(7) keep(1) drop(2) keep(2) drop(1) keep(1) finish(0) apply(0, 1)");
        check.due("document", Check.document(x), "0346");
    }

    // Promise 4: "k < 1 answers BAD_ARG"

    private static void dropRefusesLessThan1() {
        check.refused(BUSY, Calls.text("drop", 0), TextDelta.BAD_ARG);
        check.refused(BUSY, Calls.text("drop", -1), TextDelta.BAD_ARG);
        check.refused(BUSY, Calls.text("drop", LEAST), TextDelta.BAD_ARG);
        TextDelta x = check.taken(BUSY, "drop(1)", 4, "the work");
        check.due("the work", Check.workOf(x), "4 6>3 K2 A1 D4 +9");
    }

    // "k greater than the in length minus U answers BAD_LENGTH"

    private static void dropTakesAllThatIsLeftAndNoMore() {
        TextDelta x = check.taken(BUSY, "drop(3)", 6, "the work");
        check.due("the work", Check.workOf(x), "6 6>3 K2 A1 D4 +9");
        check.refused(BUSY, "drop(4)", TextDelta.BAD_LENGTH);
        check.refused(BUSY, "drop(6)", TextDelta.BAD_LENGTH);
        check.refused(BUSY, Calls.text("drop", GREATEST), TextDelta.BAD_LENGTH);
        check.refused(BUSY, Calls.text("drop", GREATEST - 2), TextDelta.BAD_LENGTH);
        check.taken("begin(40)", "drop(40)", 40, "the work");
        check.refused("begin(40)", "drop(41)", TextDelta.BAD_LENGTH);
    }

    private static void dropOfNothingLeft() {
        check.refused("", "drop(1)", TextDelta.BAD_LENGTH);
        check.refused("begin(0)", "drop(1)", TextDelta.BAD_LENGTH);
        check.refused("begin(5) keep(5)", "drop(1)", TextDelta.BAD_LENGTH);
        check.refused("begin(5) drop(5)", "drop(1)", TextDelta.BAD_LENGTH);
    }

    private static void dropTestsBadArgFirst() {
        check.refused("", "drop(0)", TextDelta.BAD_ARG);
        check.refused("begin(5) drop(5)", "drop(0)", TextDelta.BAD_ARG);
        check.refused("begin(5) drop(5)", "drop(-1)", TextDelta.BAD_ARG);
        check.refused("begin(5) drop(5)", Calls.text("drop", LEAST), TextDelta.BAD_ARG);
    }

    // Promise 4 names no FULL: a full list is nothing to a dropped place.
    private static void dropIsNeverFull() {
        TextDelta x = check.taken("begin(40) add(1)*40", "drop(40)", 40, "the work");
        check.due("the work", Check.workOf(x), "40 40>40 A40 D40 +" + "1".repeat(40));
        check.taken("begin(40) add(1)*40", "drop(1)", 1, "the work");
    }

    // Promise 5: "c not 0 to 9 answers BAD_ARG"

    private static void addRefusesWhatIsNoLetter() {
        for (int c : Calls.BAD_LETTERS) {
            check.refused(BUSY, Calls.text("add", c), TextDelta.BAD_ARG);
            check.refused("", Calls.text("add", c), TextDelta.BAD_ARG);
        }
    }

    private static void addTakes0And9() {
        TextDelta x = check.taken(BUSY, "add(0)", 4, "the work");
        check.due("the work", Check.workOf(x), "3 6>4 K2 A2 D4 +90");
        x = check.taken(BUSY, "add(9)", 4, "the work");
        check.due("the work", Check.workOf(x), "3 6>4 K2 A2 D4 +99");
        x = check.taken("", "add(5)", 1, "the work");
        check.due("the work", Check.workOf(x), "0 0>1 A1 +5");
    }

    // "the out list has 40 items answers FULL"

    private static void addTakesThe40thItemAndNoMore() {
        TextDelta x = check.taken("add(1)*39", "add(2)", 40, "the work");
        check.due("the work", Check.workOf(x), "0 0>40 A40 +" + "1".repeat(39) + "2");
        check.refused("add(1)*40", "add(2)", TextDelta.FULL);
        check.refused("add(1)*40", "add(0)", TextDelta.FULL);
        check.refused("add(1)*40", "add(9)", TextDelta.FULL);
        x = check.taken("begin(40) keep(39)", "add(2)", 40, "the work");
        check.due("the work", Check.workOf(x), "39 40>40 K39 A1 D1 +2");
        check.refused("begin(40) keep(40)", "add(2)", TextDelta.FULL);
        check.taken("begin(40) drop(40)", "add(2)", 1, "the work");
    }

    private static void addTestsBadArgBeforeFull() {
        for (int c : Calls.BAD_LETTERS) {
            check.refused("add(1)*40", Calls.text("add", c), TextDelta.BAD_ARG);
        }
    }

    // Promise 6: "slot not 0 to 3 answers BAD_ARG"

    private static void finishRefusesWhatIsNoSlot() {
        for (int slot : Calls.BAD_SLOTS) {
            check.refused(BUSY, Calls.text("finish", slot), TextDelta.BAD_ARG);
        }
    }

    private static void finishTakesTheFirstAndTheLastSlot() {
        TextDelta x = check.taken(BUSY, "finish(0)", 6, "slot 0");
        check.due("slot 0", Check.delta(x, 0), "6>6 K2 A1 D1 K3 +9");
        x = check.taken(BUSY, "finish(3)", 6, "slot 3");
        check.due("slot 3", Check.delta(x, 3), "6>6 K2 A1 D1 K3 +9");
    }

    // "the out list would have more than 40 items answers FULL"

    private static void finishFillsTheListAndNoMore() {
        check.taken("begin(40)", "finish(1)", 40, "slot 1");
        check.refused(BUSY + "begin(40) add(1)", "finish(1)", TextDelta.FULL);
        TextDelta x = check.taken("begin(40) add(1) drop(1)", "finish(1)", 40, "slot 1");
        check.due("slot 1", Check.delta(x, 1), "40>40 A1 D1 K39 +1");
        x = check.taken("begin(1) add(1)*39", "finish(1)", 40, "slot 1");
        check.due("slot 1", Check.delta(x, 1), "1>40 A39 K1 +" + "1".repeat(39));
        check.refused(BUSY + "begin(1) add(1)*40", "finish(1)", TextDelta.FULL);
        x = check.taken("begin(1) add(1)*40 drop(1)", "finish(1)", 40, "slot 1");
        check.due("slot 1", Check.delta(x, 1), "1>40 A40 D1 +" + "1".repeat(40));
        check.taken("begin(30) keep(10) add(1)*10", "finish(1)", 40, "slot 1");
        check.refused(BUSY + "begin(30) keep(10) add(1)*11", "finish(1)", TextDelta.FULL);
        check.refused(BUSY + "begin(40) add(1)*40", "finish(1)", TextDelta.FULL);
    }

    private static void finishTestsBadArgBeforeFull() {
        for (int slot : Calls.BAD_SLOTS) {
            check.refused("begin(40) add(1)", Calls.text("finish", slot), TextDelta.BAD_ARG);
        }
    }

    // "followed by KEPT U, KEPT U + 1, .. up to the last old place": the letters
    // tell which old places they are.
    private static void finishFollowsUpToTheLastOldPlace() {
        TextDelta x = check.taken("begin(40) drop(39)", "finish(1)", 1, "slot 1");
        check.due("slot 1", Check.delta(x, 1), "40>1 D39 K1 +");
        x = Calls.after("type(1)*37 type(2) type(3) type(4) begin(40) drop(38) finish(1) apply(1, 2)");
        check.due("document", Check.document(x), "34");
        x = check.taken("begin(1)", "finish(1)", 1, "slot 1");
        check.due("slot 1", Check.delta(x, 1), "1>1 K1 +");
    }

    private static void finishWithNothingLeftFollowsWithNothing() {
        TextDelta x = check.taken(BUSY + "begin(0)", "finish(2)", 0, "slot 2");
        check.due("slot 2", Check.delta(x, 2), "0>0 +");
        x = check.taken(BUSY + "begin(40) drop(40)", "finish(2)", 0, "slot 2");
        check.due("slot 2", Check.delta(x, 2), "40>0 D40 +");
        x = check.taken(BUSY + "begin(40) keep(40)", "finish(2)", 40, "slot 2");
        check.due("slot 2", Check.delta(x, 2), "40>40 K40 +");
        x = check.taken("", "finish(2)", 0, "slot 2");
        check.due("slot 2", Check.delta(x, 2), "0>0 +");
    }

    // "(so it can be finished again, or gone on with)"
    private static void finishLeavesTheWorkAsItWas() {
        TextDelta x = check.taken(BUSY + "finish(0)", "finish(1)", 6, "slot 1");
        check.due("same(0, 1)", x.same(0, 1), true);
        check.taken(BUSY + "finish(0)", "keep(3)", 6, "the work");
        check.taken(BUSY + "finish(0)", "drop(3)", 6, "the work");
        check.taken(BUSY + "finish(0)", "add(0)", 4, "the work");
    }

    private static void finishPutsAShorterDeltaOverALongerOne() {
        TextDelta x = check.taken("begin(20) add(1)*20 finish(0) begin(2) drop(1)", "finish(0)", 1, "slot 0");
        check.due("slot 0", Check.delta(x, 0), "2>1 D1 K1 +");
    }
}
