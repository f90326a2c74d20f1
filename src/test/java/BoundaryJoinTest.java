/** The boundary cases of promise 7: join. */
public final class BoundaryJoinTest {
    private static final Check check = new Check();

    // Slot 0 gives 4 letters; slots 1, 2 and 3 ask for 4, one less and one more.
    // The other way round 3 fits 0, and 2 fits 3.
    private static final String FOUR = "type(8)"
        + " begin(3) add(5) finish(0) begin(4) keep(1) drop(1) add(6) finish(1)"
        + " begin(3) add(7) add(8) finish(2) begin(5) drop(2) finish(3)"
        + " begin(6) keep(2) add(9) drop(1) ";

    public static void main(String[] args) {
        refusesWhatIsNoSlot();
        takesTheFirstAndTheLastSlot();
        refusesALengthOneOffOnEitherSide();
        refusesALengthOneOffAtTheEnds();
        comparesTheOutLengthWithTheInLength();
        testsBadArgBeforeBadLength();
        joinsEmptyLists();
        joinsFullLists();
        takesTheFirstAndTheLastItem();
        theResultMayGoToA();
        theResultMayGoToB();
        aAndBMayBeTheSame();
        oneSlotMayBeAllThree();
        check.end();
    }

    // "one of a, b, to not 0 to 3 answers BAD_ARG"
    private static void refusesWhatIsNoSlot() {
        for (int bad : Calls.BAD_SLOTS) {
            check.refused(FOUR, Calls.text("join", bad, 1, 2), TextDelta.BAD_ARG);
            check.refused(FOUR, Calls.text("join", 0, bad, 2), TextDelta.BAD_ARG);
            check.refused(FOUR, Calls.text("join", 0, 1, bad), TextDelta.BAD_ARG);
            check.refused(FOUR, Calls.text("join", bad, bad, bad), TextDelta.BAD_ARG);
        }
    }

    private static void takesTheFirstAndTheLastSlot() {
        TextDelta x = check.taken(FOUR, "join(0, 1, 3)", 4, "slot 3");
        check.due("slot 3", Check.delta(x, 3), "3>4 A2 D1 K2 +56");
        x = check.taken(FOUR, "join(3, 0, 1)", 4, "slot 1");
        check.due("slot 1", Check.delta(x, 1), "5>4 A1 D2 K3 +5");
        x = check.taken(FOUR, "join(2, 3, 0)", 3, "slot 0");
        check.due("slot 0", Check.delta(x, 0), "3>3 K3 +");
    }

    // "a's out length is not b's in length answers BAD_LENGTH"

    private static void refusesALengthOneOffOnEitherSide() {
        check.taken(FOUR, "join(0, 1, 1)", 4, "slot 1");
        check.refused(FOUR, "join(0, 2, 1)", TextDelta.BAD_LENGTH);
        check.refused(FOUR, "join(0, 3, 1)", TextDelta.BAD_LENGTH);
        check.refused(FOUR, "join(0, 2, 0)", TextDelta.BAD_LENGTH);
        check.refused(FOUR, "join(0, 2, 2)", TextDelta.BAD_LENGTH);
    }

    private static void refusesALengthOneOffAtTheEnds() {
        check.refused("begin(1) finish(1)", "join(0, 1, 2)", TextDelta.BAD_LENGTH);
        check.refused("begin(1) finish(1)", "join(1, 0, 2)", TextDelta.BAD_LENGTH);
        check.refused("add(1)*40 finish(0) begin(39) finish(1)", "join(0, 1, 2)", TextDelta.BAD_LENGTH);
        check.refused("add(1)*39 finish(0) begin(40) finish(1)", "join(0, 1, 2)", TextDelta.BAD_LENGTH);
        check.refused("add(1)*40 finish(0)", "join(0, 1, 2)", TextDelta.BAD_LENGTH);
    }

    // Both ways of mixing up the lengths: the in lengths of 0 and 2 are alike,
    // and so are the out lengths of 0 and 1.
    private static void comparesTheOutLengthWithTheInLength() {
        check.refused(FOUR, "join(0, 0, 1)", TextDelta.BAD_LENGTH);
        check.refused(FOUR, "join(2, 0, 1)", TextDelta.BAD_LENGTH);
        check.refused(FOUR, "join(1, 0, 2)", TextDelta.BAD_LENGTH);
        check.taken(FOUR, "join(1, 1, 2)", 4, "slot 2");
    }

    private static void testsBadArgBeforeBadLength() {
        for (int bad : Calls.BAD_SLOTS) {
            check.refused(FOUR, Calls.text("join", 0, 2, bad), TextDelta.BAD_ARG);
            check.refused(FOUR, Calls.text("join", 0, 3, bad), TextDelta.BAD_ARG);
        }
    }

    private static void joinsEmptyLists() {
        TextDelta x = check.taken("", "join(0, 1, 2)", 0, "slot 2");
        check.due("slot 2", Check.delta(x, 2), "0>0 +");
        x = check.taken("begin(40) drop(40) finish(0)", "join(0, 1, 2)", 0, "slot 2");
        check.due("slot 2", Check.delta(x, 2), "40>0 D40 +");
        x = check.taken("begin(5) drop(5) finish(0) begin(0) add(4) finish(1)", "join(0, 1, 2)", 1, "slot 2");
        check.due("slot 2", Check.delta(x, 2), "5>1 A1 D5 +4");
        x = check.taken("add(1)*40 finish(0) begin(40) drop(40) finish(1)", "join(0, 1, 2)", 0, "slot 2");
        check.due("slot 2", Check.delta(x, 2), "0>0 +");
    }

    private static void joinsFullLists() {
        TextDelta x = check.taken("begin(40) finish(0)", "join(0, 0, 2)", 40, "slot 2");
        check.due("slot 2", Check.delta(x, 2), "40>40 K40 +");
        x = check.taken("begin(40) drop(40) finish(0) begin(0) add(2)*40 finish(1)", "join(0, 1, 2)", 40, "slot 2");
        check.due("slot 2", Check.delta(x, 2), "40>40 A40 D40 +" + "2".repeat(40));
        x = check.taken("add(1)*20 finish(0) begin(20) add(2)*20 finish(1)", "join(0, 1, 2)", 40, "slot 2");
        check.due("slot 2", Check.delta(x, 2), "0>40 A40 +" + "2".repeat(20) + "1".repeat(20));
    }

    // "the item number s (from 0) of a's out list"
    private static void takesTheFirstAndTheLastItem() {
        String full = "add(3) add(1)*38 add(4) finish(0) ";
        TextDelta x = check.taken(full + "begin(40) keep(1) drop(39) finish(1)", "join(0, 1, 2)", 1, "slot 2");
        check.due("the first", Check.delta(x, 2), "0>1 A1 +3");
        x = check.taken(full + "begin(40) drop(39) finish(1)", "join(0, 1, 2)", 1, "slot 2");
        check.due("the last", Check.delta(x, 2), "0>1 A1 +4");
    }

    // "a, b and to may be the same slot; the contents before the call count": the
    // lists are such that a result written in place would be read again.

    private static void theResultMayGoToA() {
        String two = "begin(3) add(5) finish(0) begin(4) add(9) finish(1)";
        TextDelta x = check.taken(two, "join(0, 1, 0)", 5, "slot 0");
        check.due("slot 0", Check.delta(x, 0), "3>5 A2 K3 +95");
        x = check.taken(FOUR, "join(0, 1, 0)", 4, "slot 0");
        check.due("slot 0", Check.delta(x, 0), "3>4 A2 D1 K2 +56");
    }

    private static void theResultMayGoToB() {
        String two = "begin(3) add(5) finish(0) begin(4) add(9) finish(1)";
        TextDelta x = check.taken(two, "join(0, 1, 1)", 5, "slot 1");
        check.due("slot 1", Check.delta(x, 1), "3>5 A2 K3 +95");
        x = check.taken(FOUR, "join(0, 1, 1)", 4, "slot 1");
        check.due("slot 1", Check.delta(x, 1), "3>4 A2 D1 K2 +56");
    }

    private static void aAndBMayBeTheSame() {
        TextDelta x = check.taken("begin(4) add(5) keep(3) drop(1) finish(2)", "join(2, 2, 3)", 4, "slot 3");
        check.due("slot 3", Check.delta(x, 3), "4>4 A2 K2 D2 +55");
    }

    private static void oneSlotMayBeAllThree() {
        TextDelta x = check.taken("begin(4) add(5) keep(3) drop(1) finish(2)", "join(2, 2, 2)", 4, "slot 2");
        check.due("slot 2", Check.delta(x, 2), "4>4 A2 K2 D2 +55");
    }
}
