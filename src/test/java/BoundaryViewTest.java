/** The boundary cases of the promises 14 to 20: inLength, outLength, runs, run, added, same. */
public final class BoundaryViewTest {
    private static final Check check = new Check();
    private static final String BUSY = Calls.BUSY;
    private static final int LEAST = Integer.MIN_VALUE;
    private static final int GREATEST = Integer.MAX_VALUE;

    // 20 times a kept place, a new item and a dropped place: no delta has more runs.
    private static final String MOST_RUNS = "begin(40) "
        + "keep(1) add(1) drop(1) ".repeat(19) + "keep(1) add(2) drop(1) finish(3)";

    public static void main(String[] args) {
        inLengthRefusesWhatIsNoSlot();
        inLengthOfTheFirstAndTheLastSlot();
        inLengthFrom0To40();

        outLengthRefusesWhatIsNoSlot();
        outLengthOfTheFirstAndTheLastSlot();
        outLengthFrom0To40();

        runsRefusesWhatIsNoSlot();
        runsOfTheFirstAndTheLastSlot();
        anEmptyDeltaHasNoRuns();
        aDeltaOfOneKindHasOneRun();
        neighbouringStepsMakeOneRunWhateverTheLetters();
        newItemsBeforeTheFirstKeptItemComeFirst();
        newItemsAfterAKeptItemComeRightAfterIt();
        theMostRuns();

        runRefusesWhatIsNoSlot();
        runHasNothingBefore0();
        runHasNothingBehindTheLastRun();
        runOfAnEmptyDelta();
        runOf40Steps();
        runHasNothingOfAnotherDelta();

        addedRefusesWhatIsNoSlot();
        addedHasNothingBefore0();
        addedHasNothingBehindTheLastNewItem();
        addedOfADeltaWithoutNewItems();
        addedOf40NewItems();
        addedAnswers0And9();
        addedHasNothingOfALongerDeltaBefore();

        sameIsFalseForWhatIsNoSlot();
        sameOfTheFirstAndTheLastSlot();
        sameOfEmptyLists();
        sameOfFullLists();
        sameLooksAtNothingBehindTheLists();
        aKeptPlaceIsNoLetter();

        runTestsBadArgBeforeNone();
        addedTestsBadArgBeforeNone();
        check.end();
    }

    // Promise 14: "BAD_ARG if slot is not 0 to 3"

    private static void inLengthRefusesWhatIsNoSlot() {
        for (int slot : Calls.BAD_SLOTS) {
            check.refused(BUSY, Calls.text("inLength", slot), TextDelta.BAD_ARG);
        }
    }

    private static void inLengthOfTheFirstAndTheLastSlot() {
        check.taken(BUSY, "inLength(0)", 3);
        check.taken(BUSY, "inLength(1)", 2);
        check.taken(BUSY, "inLength(2)", 4);
        check.taken(BUSY, "inLength(3)", 1);
    }

    private static void inLengthFrom0To40() {
        check.taken("", "inLength(0)", 0);
        check.taken("add(1)*40 finish(0)", "inLength(0)", 0);
        check.taken("begin(40) drop(40) finish(0)", "inLength(0)", 40);
        check.taken("begin(39) add(1) finish(0)", "inLength(0)", 39);
    }

    // Promise 15: "BAD_ARG if slot is not 0 to 3"

    private static void outLengthRefusesWhatIsNoSlot() {
        for (int slot : Calls.BAD_SLOTS) {
            check.refused(BUSY, Calls.text("outLength", slot), TextDelta.BAD_ARG);
        }
    }

    private static void outLengthOfTheFirstAndTheLastSlot() {
        check.taken(BUSY, "outLength(0)", 4);
        check.taken(BUSY, "outLength(1)", 1);
        check.taken(BUSY, "outLength(2)", 3);
        check.taken(BUSY, "outLength(3)", 3);
    }

    private static void outLengthFrom0To40() {
        check.taken("", "outLength(0)", 0);
        check.taken("add(1)*40 finish(0)", "outLength(0)", 40);
        check.taken("begin(40) drop(40) finish(0)", "outLength(0)", 0);
        check.taken("begin(39) add(1) finish(0)", "outLength(0)", 40);
    }

    // Promise 16: "BAD_ARG if slot is not 0 to 3"

    private static void runsRefusesWhatIsNoSlot() {
        for (int slot : Calls.BAD_SLOTS) {
            check.refused(BUSY, Calls.text("runs", slot), TextDelta.BAD_ARG);
        }
    }

    private static void runsOfTheFirstAndTheLastSlot() {
        check.taken(BUSY, "runs(0)", 2);
        check.taken(BUSY, "runs(2)", 4);
        check.taken(BUSY + "begin(5) keep(1) add(2) drop(1) finish(3)", "runs(3)", 4);
    }

    private static void anEmptyDeltaHasNoRuns() {
        check.taken("", "runs(0)", 0);
        check.taken(BUSY + "begin(0) finish(2)", "runs(2)", 0);
    }

    private static void aDeltaOfOneKindHasOneRun() {
        check.taken("begin(1) finish(0)", "runs(0)", 1);
        check.taken("begin(40) finish(0)", "runs(0)", 1);
        check.taken("begin(1) drop(1) finish(0)", "runs(0)", 1);
        check.taken("begin(40) drop(40) finish(0)", "runs(0)", 1);
        check.taken("add(0) finish(0)", "runs(0)", 1);
        check.taken("add(0)*40 finish(0)", "runs(0)", 1);
    }

    // "Neighbouring steps of the same kind (KEEP, DROP or ADD, whatever the
    // letters) make one run": however they were made.
    private static void neighbouringStepsMakeOneRunWhateverTheLetters() {
        TextDelta x = Calls.after("begin(6) add(1) add(2) add(1) keep(1) keep(2) drop(1) drop(2) finish(0)");
        check.due("slot 0", Check.delta(x, 0), "6>6 A3 K3 D3 +121");
        x = Calls.after("begin(4) keep(1) add(5) drop(1) add(6) drop(1) add(7) keep(1) finish(0)");
        check.due("slot 0", Check.delta(x, 0), "4>5 K1 A3 D2 K1 +567");
    }

    // "first come all new items that stand in the out list before the first kept
    // item": also before old places that were dropped before them.
    private static void newItemsBeforeTheFirstKeptItemComeFirst() {
        TextDelta x = Calls.after("begin(3) drop(1) add(5) drop(1) add(6) finish(0)");
        check.due("a kept item follows", Check.delta(x, 0), "3>3 A2 D2 K1 +56");
        x = Calls.after("begin(3) drop(3) add(5) finish(0)");
        check.due("there is no kept item", Check.delta(x, 0), "3>1 A1 D3 +5");
    }

    // "right after it all new items that stand in the out list directly after this
    // kept item"
    private static void newItemsAfterAKeptItemComeRightAfterIt() {
        TextDelta x = Calls.after("begin(3) keep(1) drop(2) add(5) finish(0)");
        check.due("before the drops at the end", Check.delta(x, 0), "3>2 K1 A1 D2 +5");
        x = Calls.after("begin(3) keep(1) drop(1) add(5) finish(0)");
        check.due("before the drops in the middle", Check.delta(x, 0), "3>3 K1 A1 D1 K1 +5");
        x = Calls.after("begin(3) keep(3) add(5) finish(0)");
        check.due("after the last place", Check.delta(x, 0), "3>4 K3 A1 +5");
    }

    private static void theMostRuns() {
        check.taken(MOST_RUNS, "runs(3)", 60);
        check.taken(MOST_RUNS, "run(3, 0)", TextDelta.KEEP + 4);
        check.taken(MOST_RUNS, "run(3, 58)", TextDelta.ADD + 4);
        check.taken(MOST_RUNS, "run(3, 59)", TextDelta.DROP + 4);
        check.refused(MOST_RUNS, "run(3, 60)", TextDelta.NONE);
        check.taken(MOST_RUNS, "added(3, 19)", 2);
        check.refused(MOST_RUNS, "added(3, 20)", TextDelta.NONE);
    }

    // Promise 17: "BAD_ARG if slot is not 0 to 3; NONE if there is no such run."

    private static void runRefusesWhatIsNoSlot() {
        for (int slot : Calls.BAD_SLOTS) {
            check.refused(BUSY, Calls.text("run", slot, 0), TextDelta.BAD_ARG);
        }
        check.taken(BUSY, "run(0, 0)", TextDelta.ADD + 4);
        check.taken(BUSY, "run(3, 0)", TextDelta.ADD + 8);
    }

    private static void runHasNothingBefore0() {
        check.taken(BUSY, "run(2, 0)", TextDelta.KEEP + 4);
        check.refused(BUSY, "run(2, -1)", TextDelta.NONE);
        check.refused(BUSY, Calls.text("run", 2, LEAST), TextDelta.NONE);
    }

    private static void runHasNothingBehindTheLastRun() {
        check.taken(BUSY, "run(2, 2)", TextDelta.DROP + 8);
        check.taken(BUSY, "run(2, 3)", TextDelta.KEEP + 4);
        check.refused(BUSY, "run(2, 4)", TextDelta.NONE);
        check.refused(BUSY, "run(2, 80)", TextDelta.NONE);
        check.refused(BUSY, Calls.text("run", 2, GREATEST), TextDelta.NONE);
    }

    private static void runOfAnEmptyDelta() {
        check.refused("", "run(0, 0)", TextDelta.NONE);
        check.refused("", "run(0, -1)", TextDelta.NONE);
        check.refused(BUSY + "begin(0) finish(2)", "run(2, 0)", TextDelta.NONE);
    }

    // "its kind (KEEP, DROP or ADD) plus 4 times the number of its single steps"
    private static void runOf40Steps() {
        check.taken("begin(40) finish(0)", "run(0, 0)", TextDelta.KEEP + 160);
        check.refused("begin(40) finish(0)", "run(0, 1)", TextDelta.NONE);
        String all = "begin(40) drop(40) add(1)*40 finish(0)";
        check.taken(all, "run(0, 0)", TextDelta.ADD + 160);
        check.taken(all, "run(0, 1)", TextDelta.DROP + 160);
        check.refused(all, "run(0, 2)", TextDelta.NONE);
    }

    private static void runHasNothingOfAnotherDelta() {
        TextDelta x = Calls.after(MOST_RUNS + " begin(1) finish(0)");
        check.due("run(3, 1)", x.run(3, 1), TextDelta.ADD + 4);
        check.due("run(0, 1)", x.run(0, 1), TextDelta.NONE);
        check.due("run(1, 0)", x.run(1, 0), TextDelta.NONE);
        check.due("runs(3)", x.runs(3), 60);
        check.due("runs(0)", x.runs(0), 1);
        check.due("run(0, 0)", x.run(0, 0), TextDelta.KEEP + 4);
    }

    // Promise 18: "BAD_ARG if slot is not 0 to 3; NONE if there is no such item."

    private static void addedRefusesWhatIsNoSlot() {
        for (int slot : Calls.BAD_SLOTS) {
            check.refused(BUSY, Calls.text("added", slot, 0), TextDelta.BAD_ARG);
        }
        check.taken(BUSY, "added(0, 0)", 5);
        check.taken(BUSY, "added(3, 0)", 7);
    }

    private static void addedHasNothingBefore0() {
        check.refused(BUSY, "added(3, -1)", TextDelta.NONE);
        check.refused(BUSY, Calls.text("added", 3, LEAST), TextDelta.NONE);
    }

    private static void addedHasNothingBehindTheLastNewItem() {
        check.taken(BUSY, "added(3, 1)", 8);
        check.refused(BUSY, "added(3, 2)", TextDelta.NONE);
        check.taken(BUSY, "added(2, 0)", 6);
        check.refused(BUSY, "added(2, 1)", TextDelta.NONE);
        check.refused(BUSY, "added(2, 40)", TextDelta.NONE);
        check.refused(BUSY, Calls.text("added", 2, GREATEST), TextDelta.NONE);
    }

    private static void addedOfADeltaWithoutNewItems() {
        check.refused("", "added(0, 0)", TextDelta.NONE);
        check.refused("begin(40) finish(0)", "added(0, 0)", TextDelta.NONE);
        check.refused("begin(40) finish(0)", "added(0, 39)", TextDelta.NONE);
        check.refused("begin(40) drop(40) finish(0)", "added(0, 0)", TextDelta.NONE);
    }

    private static void addedOf40NewItems() {
        check.taken("add(1) add(2)*38 add(3) finish(0)", "added(0, 0)", 1);
        check.taken("add(1) add(2)*38 add(3) finish(0)", "added(0, 39)", 3);
        check.refused("add(1) add(2)*38 add(3) finish(0)", "added(0, 40)", TextDelta.NONE);
        check.taken("begin(39) keep(39) add(4) finish(0)", "added(0, 0)", 4);
    }

    private static void addedAnswers0And9() {
        check.taken("add(0) add(9) finish(0)", "added(0, 0)", 0);
        check.taken("add(0) add(9) finish(0)", "added(0, 1)", 9);
    }

    private static void addedHasNothingOfALongerDeltaBefore() {
        check.refused("add(1)*40 finish(0) begin(0) add(2) finish(0)", "added(0, 1)", TextDelta.NONE);
        check.refused("add(1)*40 finish(0) begin(0) finish(0)", "added(0, 0)", TextDelta.NONE);
    }

    // Promise 19: "false if a or b is not 0 to 3"

    private static void sameIsFalseForWhatIsNoSlot() {
        for (int bad : Calls.BAD_SLOTS) {
            for (int slot = 0; slot < 4; slot++) {
                check.refused("", Calls.text("same", bad, slot), 0);
                check.refused("", Calls.text("same", slot, bad), 0);
            }
            for (int other : Calls.BAD_SLOTS) {
                check.refused("", Calls.text("same", bad, other), 0);
            }
        }
    }

    private static void sameOfTheFirstAndTheLastSlot() {
        check.taken("", "same(0, 3)", 1);
        check.taken(BUSY, "same(0, 0)", 1);
        check.taken(BUSY, "same(3, 3)", 1);
        check.taken(BUSY, "same(0, 3)", 0);
        check.taken(BUSY + "finish(0) finish(3)", "same(0, 3)", 1);
        check.taken(BUSY + "finish(0) finish(3)", "same(3, 0)", 1);
    }

    // "the same in length and the same out list"
    private static void sameOfEmptyLists() {
        check.taken("begin(1) drop(1) finish(0)", "same(0, 1)", 0);
        check.taken("begin(1) drop(1) finish(0)", "same(1, 0)", 0);
        check.taken("begin(40) drop(40) finish(0) begin(39) drop(39) finish(1)", "same(0, 1)", 0);
        check.taken("begin(40) drop(40) finish(0) finish(1)", "same(0, 1)", 1);
        check.taken("begin(0) add(1) finish(0)", "same(0, 1)", 0);
        check.taken("begin(0) add(1) finish(0)", "same(1, 0)", 0);
    }

    private static void sameOfFullLists() {
        check.taken("add(1)*40 finish(0) finish(1)", "same(0, 1)", 1);
        check.taken("add(1)*40 finish(0) begin(0) add(1)*39 finish(1)", "same(0, 1)", 0);
        check.taken("add(1)*40 finish(0) begin(0) add(1)*39 finish(1)", "same(1, 0)", 0);
        check.taken("add(1)*40 finish(0) begin(0) add(1)*39 add(2) finish(1)", "same(0, 1)", 0);
        check.taken("add(1)*40 finish(0) begin(0) add(1)*39 add(2) finish(1)", "same(1, 0)", 0);
        check.taken("add(1)*40 finish(0) begin(0) add(2) add(1)*39 finish(1)", "same(0, 1)", 0);
        check.taken("add(1)*40 finish(0) begin(0) add(2) add(1)*39 finish(1)", "same(1, 0)", 0);
    }

    private static void sameLooksAtNothingBehindTheLists() {
        check.taken("add(1)*40 finish(0) begin(0) add(1) finish(0) finish(1)", "same(0, 1)", 1);
        check.taken("add(1)*40 finish(0) begin(0) add(1) finish(0) finish(1)", "same(1, 0)", 1);
        check.taken("add(1)*40 finish(0) begin(0) finish(0)", "same(0, 1)", 1);
        check.taken("add(1)*40 finish(0) finish(1) begin(0) add(1)*39 finish(1)", "same(0, 1)", 0);
        check.taken("add(1)*40 finish(0) finish(1) begin(0) add(1)*39 finish(1)", "same(1, 0)", 0);
    }

    private static void aKeptPlaceIsNoLetter() {
        for (int n = 0; n <= 9; n++) {
            String kept = "begin(40) " + (n == 0 ? "" : "drop(" + n + ") ") + "keep(1) drop(" + (39 - n) + ") finish(0) ";
            check.taken(kept + "begin(40) drop(40) add(" + n + ") finish(1)", "same(0, 1)", 0);
        }
    }

    // Promise 20: "run, added: BAD_ARG is tested before NONE."

    private static void runTestsBadArgBeforeNone() {
        for (int slot : Calls.BAD_SLOTS) {
            for (int i : new int[] {-1, 2, 60, 80, LEAST, GREATEST}) {
                check.refused(BUSY, Calls.text("run", slot, i), TextDelta.BAD_ARG);
            }
        }
    }

    private static void addedTestsBadArgBeforeNone() {
        for (int slot : Calls.BAD_SLOTS) {
            for (int i : new int[] {-1, 2, 40, 80, LEAST, GREATEST}) {
                check.refused(BUSY, Calls.text("added", slot, i), TextDelta.BAD_ARG);
            }
        }
    }
}
