/** The boundary cases of promise 8: carry. */
public final class BoundaryCarryTest {
    private static final Check check = new Check();

    // Slots 0 and 1 have in length 3, slots 2 and 3 one less and one more; all
    // out lengths are 4, so they can't stand in for the in lengths.
    private static final String FOUR = "type(8)"
        + " begin(3) add(1) keep(1) add(2) drop(1) finish(0) begin(3) add(3) keep(2) add(4) drop(1) finish(1)"
        + " begin(2) add(5) add(6) finish(2) begin(4) drop(1) add(7) finish(3)"
        + " begin(6) keep(2) add(9) drop(1) ";
    private static final String A_FIRST = "4>5 A1 K2 A1 D1 K1 +12";
    private static final String B_FIRST = "4>5 K1 A1 K1 A1 D1 K1 +12";

    public static void main(String[] args) {
        refusesWhatIsNoSlot();
        takesTheFirstAndTheLastSlot();
        aIsTheOneUnlessAFirstIs0();
        refusesAnInLengthOneOffOnEitherSide();
        refusesAnInLengthOneOffAtTheEnds();
        outLengthsMayDiffer();
        aMergedListOfNewItemsMayHave40Entries();
        aMergedListWithOldPlacesMayHave40Entries();
        onlyPlacesThatBothKeepCount();
        theLastGapMayFillTheList();
        aFullRefusalLeavesTheTargetAlone();
        aFullRefusalLeavesNothingBehind();
        testsBadArgBeforeBadLength();
        testsBadArgBeforeFull();
        testsBadLengthBeforeFull();
        carriesEmptyLists();
        itemsWithNoKeptItemBeforeThemBelongToGap0();
        theLastGapIsBehindTheLastPlace();
        theFirstAndTheLastItemOfBAreKept();
        theResultMayGoToA();
        theResultMayGoToB();
        aAndBMayBeTheSame();
        oneSlotMayBeAllThree();
        check.end();
    }

    private static String two(String a, String b) {
        return a + " finish(0) " + b + " finish(1)";
    }

    /** Both orders have the same number of entries. */
    private static void takenBothWays(String calls, int answer) {
        check.taken(calls, "carry(0, 1, 0, 2)", answer, "slot 2");
        check.taken(calls, "carry(0, 1, 1, 2)", answer, "slot 2");
    }

    private static void fullBothWays(String calls) {
        check.refused(calls, "carry(0, 1, 0, 2)", TextDelta.FULL);
        check.refused(calls, "carry(0, 1, 1, 2)", TextDelta.FULL);
    }

    // "one of a, b, to not 0 to 3 answers BAD_ARG"

    private static void refusesWhatIsNoSlot() {
        for (int bad : Calls.BAD_SLOTS) {
            check.refused(FOUR, Calls.text("carry", bad, 1, 1, 2), TextDelta.BAD_ARG);
            check.refused(FOUR, Calls.text("carry", 0, bad, 1, 2), TextDelta.BAD_ARG);
            check.refused(FOUR, Calls.text("carry", 0, 1, 1, bad), TextDelta.BAD_ARG);
            check.refused(FOUR, Calls.text("carry", bad, bad, 0, bad), TextDelta.BAD_ARG);
        }
    }

    private static void takesTheFirstAndTheLastSlot() {
        TextDelta x = check.taken(FOUR, "carry(0, 1, 1, 3)", 5, "slot 3");
        check.due("slot 3", Check.delta(x, 3), A_FIRST);
        x = check.taken(FOUR, "carry(1, 0, 1, 2)", 5, "slot 2");
        check.due("slot 2", Check.delta(x, 2), "4>5 A1 K3 A1 D1 +34");
        x = check.taken(FOUR, "carry(3, 3, 1, 0)", 5, "slot 0");
        check.due("slot 0", Check.delta(x, 0), "4>5 A1 K4 +7");
    }

    // "'The one' is a if aFirst is not 0, and b if aFirst is 0": no number is bad.
    private static void aIsTheOneUnlessAFirstIs0() {
        TextDelta x = check.taken(FOUR, "carry(0, 1, 0, 2)", 5, "slot 2");
        check.due("aFirst 0", Check.delta(x, 2), B_FIRST);
        for (int aFirst : new int[] {1, -1, 2, 4, 256, 65536, Integer.MIN_VALUE, Integer.MAX_VALUE}) {
            x = check.taken(FOUR, Calls.text("carry", 0, 1, aFirst, 2), 5, "slot 2");
            check.due("aFirst " + aFirst, Check.delta(x, 2), A_FIRST);
        }
    }

    // "the in lengths differ answers BAD_LENGTH"

    private static void refusesAnInLengthOneOffOnEitherSide() {
        check.refused(FOUR, "carry(0, 2, 0, 1)", TextDelta.BAD_LENGTH);
        check.refused(FOUR, "carry(2, 0, 0, 1)", TextDelta.BAD_LENGTH);
        check.refused(FOUR, "carry(0, 3, 1, 0)", TextDelta.BAD_LENGTH);
        check.refused(FOUR, "carry(3, 0, 1, 0)", TextDelta.BAD_LENGTH);
    }

    private static void refusesAnInLengthOneOffAtTheEnds() {
        check.refused("begin(1) finish(1)", "carry(0, 1, 1, 2)", TextDelta.BAD_LENGTH);
        check.refused("begin(1) finish(1)", "carry(1, 0, 1, 2)", TextDelta.BAD_LENGTH);
        check.refused(two("begin(40)", "begin(39)"), "carry(0, 1, 0, 2)", TextDelta.BAD_LENGTH);
        check.refused(two("begin(40)", "begin(39)"), "carry(1, 0, 0, 2)", TextDelta.BAD_LENGTH);
        check.taken(two("begin(40)", "begin(40)"), "carry(0, 1, 0, 2)", 40, "slot 2");
    }

    private static void outLengthsMayDiffer() {
        TextDelta x = check.taken(two("begin(3) drop(2)", "begin(3) add(1)*3"), "carry(0, 1, 0, 2)", 4, "slot 2");
        check.due("slot 2", Check.delta(x, 2), "6>4 K3 D2 K1 +");
        x = check.taken(two("begin(3) drop(2)", "begin(3) add(1)*3"), "carry(1, 0, 0, 2)", 4, "slot 2");
        check.due("slot 2", Check.delta(x, 2), "1>4 A3 K1 +111");
    }

    // "the merged list has more than 40 entries answers FULL"

    private static void aMergedListOfNewItemsMayHave40Entries() {
        takenBothWays(two("add(1)*20", "begin(0) add(2)*20"), 40);
        fullBothWays(two("add(1)*21", "begin(0) add(2)*20"));
        fullBothWays(two("add(1)*20", "begin(0) add(2)*21"));
        takenBothWays(two("add(1)*40", "begin(0)"), 40);
        fullBothWays(two("add(1)*40", "begin(0) add(2)"));
        takenBothWays(two("begin(0)", "begin(0) add(2)*40"), 40);
        fullBothWays(two("add(1)", "begin(0) add(2)*40"));
        fullBothWays(two("add(1)*40", "begin(0) add(2)*40"));
    }

    private static void aMergedListWithOldPlacesMayHave40Entries() {
        takenBothWays(two("begin(10) keep(5) add(1)*15", "begin(10) add(2)*15"), 40);
        fullBothWays(two("begin(10) keep(5) add(1)*16", "begin(10) add(2)*15"));
        fullBothWays(two("begin(10) keep(5) add(1)*15", "begin(10) add(2)*16"));
        fullBothWays(two("begin(1) add(1)*20", "begin(1) add(2)*20"));
        TextDelta x = check.taken(two("begin(1) add(1)*20", "begin(1) add(2)*19"), "carry(0, 1, 0, 2)", 40, "slot 2");
        check.due("slot 2", Check.delta(x, 2), "20>40 K19 A20 K1 +" + "1".repeat(20));
    }

    private static void onlyPlacesThatBothKeepCount() {
        takenBothWays(two("begin(1) drop(1) add(1)*20", "begin(1) add(2)*20"), 40);
        takenBothWays(two("begin(1) add(1)*20", "begin(1) drop(1) add(2)*20"), 40);
        takenBothWays(two("begin(1) drop(1) add(1)*20", "begin(1) drop(1) add(2)*20"), 40);
        takenBothWays(two("begin(40) drop(40) add(1)*20", "begin(40) drop(40) add(2)*20"), 40);
        fullBothWays(two("begin(40) drop(40) add(1)*21", "begin(40) drop(40) add(2)*20"));
        takenBothWays(two("begin(40) keep(20) drop(20)", "begin(40) drop(20)"), 0);
    }

    private static void theLastGapMayFillTheList() {
        takenBothWays(two("begin(1) keep(1) add(1)*20", "begin(1) keep(1) add(2)*19"), 40);
        fullBothWays(two("begin(1) keep(1) add(1)*20", "begin(1) keep(1) add(2)*20"));
        fullBothWays(two("begin(39) keep(39) add(1)", "begin(39) keep(39) add(2)"));
        takenBothWays(two("begin(39) keep(39) add(1)", "begin(39) drop(1) keep(38) add(2)"), 40);
    }

    private static void aFullRefusalLeavesTheTargetAlone() {
        String calls = Calls.BUSY + two("begin(2) keep(1) add(1)*20", "begin(2) add(2)*20") + " begin(3) keep(1)";
        for (int to = 0; to < 4; to++) {
            check.refused(calls, Calls.text("carry", 0, 1, 0, to), TextDelta.FULL);
            check.refused(calls, Calls.text("carry", 1, 0, 1, to), TextDelta.FULL);
        }
    }

    /** What a refused carry had begun to put together must not get into the next result. */
    private static void aFullRefusalLeavesNothingBehind() {
        String calls = two("add(1)*21", "begin(0) add(2)*20") + " begin(0) add(3) add(4) finish(2)";
        String[] next = {"finish(3)", "join(3, 2, 3)", "carry(2, 2, 1, 3)", "apply(2, 3)"};
        String[] due = {"0>2 A2 +34", "0>2 A2 +34", "2>4 A2 K2 +34", "2>0 D2 +"};
        for (int i = 0; i < next.length; i++) {
            TextDelta x = Calls.after(calls);
            check.due("carry(0, 1, 0, 2)", x.carry(0, 1, 0, 2), TextDelta.FULL);
            Calls.answer(x, next[i]);
            check.due("slot 3 after " + next[i], Check.delta(x, 3), due[i]);
        }
    }

    private static void testsBadArgBeforeBadLength() {
        for (int bad : Calls.BAD_SLOTS) {
            check.refused(FOUR, Calls.text("carry", 0, 2, 1, bad), TextDelta.BAD_ARG);
            check.refused(FOUR, Calls.text("carry", 3, 0, 0, bad), TextDelta.BAD_ARG);
        }
    }

    private static void testsBadArgBeforeFull() {
        String calls = two("add(1)*21", "begin(0) add(2)*20");
        for (int bad : Calls.BAD_SLOTS) {
            check.refused(calls, Calls.text("carry", 0, 1, 1, bad), TextDelta.BAD_ARG);
        }
    }

    private static void testsBadLengthBeforeFull() {
        check.refused(two("add(1)*40", "begin(1) add(2)*39"), "carry(0, 1, 0, 2)", TextDelta.BAD_LENGTH);
        check.refused(two("add(1)*40", "begin(1) add(2)*39"), "carry(1, 0, 1, 2)", TextDelta.BAD_LENGTH);
    }

    private static void carriesEmptyLists() {
        TextDelta x = check.taken("", "carry(0, 1, 0, 2)", 0, "slot 2");
        check.due("in length 0", Check.delta(x, 2), "0>0 +");
        x = check.taken(two("begin(40) drop(40)", "begin(40) drop(40)"), "carry(0, 1, 0, 2)", 0, "slot 2");
        check.due("both drop all", Check.delta(x, 2), "0>0 +");
        x = check.taken(two("begin(40) drop(40)", "begin(40)"), "carry(0, 1, 0, 2)", 0, "slot 2");
        check.due("a drops all", Check.delta(x, 2), "40>0 D40 +");
        x = check.taken(two("begin(40)", "begin(40) drop(40)"), "carry(0, 1, 0, 2)", 0, "slot 2");
        check.due("b drops all", Check.delta(x, 2), "0>0 +");
    }

    // "and to gap 0 if there is none"
    private static void itemsWithNoKeptItemBeforeThemBelongToGap0() {
        TextDelta x = Calls.after(two("begin(2) drop(2) add(3)", "begin(2) keep(1) add(4)") + " carry(0, 1, 0, 2)");
        check.due("a's before b's of gap 1", Check.delta(x, 2), "3>2 A1 D1 K1 D1 +3");
        x = Calls.after(two("begin(2) keep(1) add(4)", "begin(2) drop(2) add(3)") + " carry(0, 1, 1, 2)");
        check.due("b's before a's of gap 1", Check.delta(x, 2), "1>2 K1 A1 +4");
        x = Calls.after(two("begin(2) drop(2) add(3)", "begin(2) add(4)") + " carry(0, 1, 0, 2)");
        check.due("b's, then a's of gap 0", Check.delta(x, 2), "3>2 K1 A1 D2 +3");
        x = Calls.after(two("begin(2) drop(2) add(3)", "begin(2) add(4)") + " carry(0, 1, 1, 2)");
        check.due("a's, then b's of gap 0", Check.delta(x, 2), "3>2 A1 K1 D2 +3");
    }

    // "gap s + 1 directly after old place s": the last one is gap 40.
    private static void theLastGapIsBehindTheLastPlace() {
        String a = "begin(40) drop(2) keep(38) add(5)";
        TextDelta x = Calls.after(two(a, "begin(40) drop(2)") + " carry(0, 1, 0, 2)");
        check.due("a's alone", Check.delta(x, 2), "38>39 K38 A1 +5");
        x = Calls.after(two(a, "begin(40) drop(2) keep(38) add(6)") + " carry(0, 1, 0, 2)");
        check.due("b first", Check.delta(x, 2), "39>40 K39 A1 +5");
        x = Calls.after(two(a, "begin(40) drop(2) keep(38) add(6)") + " carry(0, 1, 1, 2)");
        check.due("a first", Check.delta(x, 2), "39>40 K38 A1 K1 +5");
    }

    // "KEPT t if the entry is the item number t of b's out list"
    private static void theFirstAndTheLastItemOfBAreKept() {
        TextDelta x = Calls.after(two("begin(0)", "begin(0) add(2)*40") + " carry(0, 1, 0, 2)");
        check.due("new items of b", Check.delta(x, 2), "40>40 K40 +");
        x = Calls.after(two("begin(40) keep(1) drop(38)", "begin(40)") + " carry(0, 1, 0, 2)");
        check.due("old places", Check.delta(x, 2), "40>2 K1 D38 K1 +");
    }

    // "a, b and to may be the same slot; the contents before the call count"

    private static void theResultMayGoToA() {
        TextDelta x = check.taken(FOUR, "carry(0, 1, 1, 0)", 5, "slot 0");
        check.due("a first", Check.delta(x, 0), A_FIRST);
        x = check.taken(FOUR, "carry(0, 1, 0, 0)", 5, "slot 0");
        check.due("b first", Check.delta(x, 0), B_FIRST);
    }

    private static void theResultMayGoToB() {
        TextDelta x = check.taken(FOUR, "carry(0, 1, 1, 1)", 5, "slot 1");
        check.due("a first", Check.delta(x, 1), A_FIRST);
        x = check.taken(FOUR, "carry(0, 1, 0, 1)", 5, "slot 1");
        check.due("b first", Check.delta(x, 1), B_FIRST);
    }

    private static void aAndBMayBeTheSame() {
        TextDelta x = check.taken(FOUR, "carry(0, 0, 1, 2)", 6, "slot 2");
        check.due("a first", Check.delta(x, 2), "4>6 A1 K2 A1 K2 +12");
        x = check.taken(FOUR, "carry(0, 0, 0, 2)", 6, "slot 2");
        check.due("b first", Check.delta(x, 2), "4>6 K1 A1 K2 A1 K1 +12");
    }

    private static void oneSlotMayBeAllThree() {
        TextDelta x = check.taken(FOUR, "carry(0, 0, 1, 0)", 6, "slot 0");
        check.due("a first", Check.delta(x, 0), "4>6 A1 K2 A1 K2 +12");
        x = check.taken(FOUR, "carry(0, 0, 0, 0)", 6, "slot 0");
        check.due("b first", Check.delta(x, 0), "4>6 K1 A1 K2 A1 K1 +12");
    }
}
