/** The boundary cases of promise 9: apply. */
public final class BoundaryApplyTest {
    private static final Check check = new Check();

    // The document has 3 letters; slots 0 and 3 ask for 3, slots 1 and 2 for one
    // less and one more. All out lengths are 3, so they can't stand in for the in
    // lengths.
    private static final String FOUR = "type(3) type(1) type(4)"
        + " begin(3) add(5) keep(1) drop(1) finish(0) begin(2) add(1) finish(1)"
        + " begin(4) drop(1) finish(2) begin(3) drop(2) add(7) add(8) finish(3)"
        + " begin(6) keep(2) add(9) drop(1) ";

    public static void main(String[] args) {
        refusesWhatIsNoSlot();
        takesTheFirstAndTheLastSlot();
        refusesALengthOneOffOnEitherSide();
        refusesALengthOneOffAtTheEnds();
        testsBadArgBeforeBadLength();
        slotAndBackMayBeTheSame();
        anEmptyDocument();
        aDocumentThatBecomesEmpty();
        aDocumentThatBecomesFull();
        aFullDocumentStaysFull();
        aFullDocumentWithAllLettersChanged();
        theWayBackOfTheFirstAndTheLastPlace();
        theLimitOfTheDocumentHoldsAfterwards();
        aShorterWayBackOverALongerDelta();
        check.end();
    }

    // "slot or back not 0 to 3 answers BAD_ARG"

    private static void refusesWhatIsNoSlot() {
        for (int bad : Calls.BAD_SLOTS) {
            check.refused(FOUR, Calls.text("apply", bad, 1), TextDelta.BAD_ARG);
            check.refused(FOUR, Calls.text("apply", 0, bad), TextDelta.BAD_ARG);
            check.refused(FOUR, Calls.text("apply", bad, bad), TextDelta.BAD_ARG);
        }
    }

    private static void takesTheFirstAndTheLastSlot() {
        TextDelta x = check.taken(FOUR, "apply(0, 3)", 3, "the document", "slot 3");
        check.due("document", Check.document(x), "534");
        check.due("slot 3", Check.delta(x, 3), "3>3 D1 K1 A1 K1 +1");
        x = check.taken(FOUR, "apply(3, 0)", 3, "the document", "slot 0");
        check.due("document", Check.document(x), "784");
        check.due("slot 0", Check.delta(x, 0), "3>3 A2 D2 K1 +31");
    }

    // "the document's length is not the slot's in length answers BAD_LENGTH"

    private static void refusesALengthOneOffOnEitherSide() {
        check.refused(FOUR, "apply(1, 0)", TextDelta.BAD_LENGTH);
        check.refused(FOUR, "apply(2, 0)", TextDelta.BAD_LENGTH);
        check.refused(FOUR, "apply(1, 1)", TextDelta.BAD_LENGTH);
        check.refused(FOUR, "apply(2, 2)", TextDelta.BAD_LENGTH);
    }

    private static void refusesALengthOneOffAtTheEnds() {
        check.refused("begin(1) finish(1)", "apply(1, 2)", TextDelta.BAD_LENGTH);
        check.refused("type(5)", "apply(1, 2)", TextDelta.BAD_LENGTH);
        check.refused("type(5)*40 begin(39) finish(1)", "apply(1, 2)", TextDelta.BAD_LENGTH);
        check.refused("type(5)*39 begin(40) finish(1)", "apply(1, 2)", TextDelta.BAD_LENGTH);
        check.refused("type(5)*40 clear() begin(40) finish(1)", "apply(1, 2)", TextDelta.BAD_LENGTH);
    }

    private static void testsBadArgBeforeBadLength() {
        for (int bad : Calls.BAD_SLOTS) {
            check.refused(FOUR, Calls.text("apply", 1, bad), TextDelta.BAD_ARG);
            check.refused(FOUR, Calls.text("apply", 2, bad), TextDelta.BAD_ARG);
        }
    }

    // "slot and back may be the same": the document is changed by what the slot
    // held before.
    private static void slotAndBackMayBeTheSame() {
        TextDelta x = check.taken(FOUR, "apply(0, 0)", 3, "the document", "slot 0");
        check.due("document", Check.document(x), "534");
        check.due("slot 0", Check.delta(x, 0), "3>3 D1 K1 A1 K1 +1");
        x = check.taken(FOUR + "apply(0, 0)", "apply(0, 0)", 3, "the document", "slot 0");
        check.due("document", Check.document(x), "314");
        check.due("slot 0", Check.delta(x, 0), "3>3 A1 K1 D1 K1 +5");
    }

    private static void anEmptyDocument() {
        TextDelta x = check.taken("begin(1) finish(1)", "apply(0, 1)", 0, "slot 1");
        check.due("slot 1", Check.delta(x, 1), "0>0 +");
        x = check.taken(FOUR + "clear() begin(0) finish(2)", "apply(2, 3)", 0, "slot 3");
        check.due("slot 3", Check.delta(x, 3), "0>0 +");
    }

    private static void aDocumentThatBecomesEmpty() {
        TextDelta x = check.taken("type(5) begin(1) drop(1) finish(1)", "apply(1, 2)", 0, "the document", "slot 2");
        check.due("document", Check.document(x), "");
        check.due("slot 2", Check.delta(x, 2), "0>1 A1 +5");
        x = check.taken("type(5)*39 type(6) begin(40) drop(40) finish(1)", "apply(1, 2)", 0, "the document", "slot 2");
        check.due("document", Check.document(x), "");
        check.due("at(0)", x.at(0), TextDelta.NONE);
        check.due("slot 2", Check.delta(x, 2), "0>40 A40 +" + "5".repeat(39) + "6");
    }

    private static void aDocumentThatBecomesFull() {
        TextDelta x = check.taken("add(3)*40 finish(1)", "apply(1, 2)", 40, "the document", "slot 2");
        check.due("document", Check.document(x), "3".repeat(40));
        check.due("slot 2", Check.delta(x, 2), "40>0 D40 +");
        x = check.taken("type(5) begin(1) add(3)*39 finish(1)", "apply(1, 2)", 40, "the document", "slot 2");
        check.due("document", Check.document(x), "3".repeat(39) + "5");
        check.due("slot 2", Check.delta(x, 2), "40>1 D39 K1 +");
    }

    private static void aFullDocumentStaysFull() {
        TextDelta x = check.taken("type(1) type(5)*38 type(9) begin(40) finish(1)", "apply(1, 2)", 40, "slot 2");
        check.due("slot 2", Check.delta(x, 2), "40>40 K40 +");
    }

    private static void aFullDocumentWithAllLettersChanged() {
        TextDelta x = check.taken("type(5)*40 begin(40) drop(40) add(6)*40 finish(1)", "apply(1, 2)", 40,
            "the document", "slot 2");
        check.due("document", Check.document(x), "6".repeat(40));
        check.due("slot 2", Check.delta(x, 2), "40>40 A40 D40 +" + "5".repeat(40));
    }

    // "KEPT t if the slot's out list has KEPT s as its item number t, else NEW c":
    // s and t are both 0 and both 39, and one of them alone.
    private static void theWayBackOfTheFirstAndTheLastPlace() {
        String text = "type(1) type(5)*38 type(9) ";
        TextDelta x = Calls.after(text + "begin(40) keep(1) drop(38) finish(1) apply(1, 2)");
        check.due("kept at the ends", Check.delta(x, 2), "2>40 K1 A38 K1 +" + "5".repeat(38));
        check.due("document", Check.document(x), "19");
        x = Calls.after(text + "begin(40) drop(1) keep(38) drop(1) finish(1) apply(1, 2)");
        check.due("dropped at the ends", Check.delta(x, 2), "38>40 A1 K38 A1 +19");
        x = Calls.after(text + "begin(40) drop(1) keep(39) add(7) finish(1) apply(1, 2)");
        check.due("moved to the front", Check.delta(x, 2), "40>40 A1 K39 D1 +1");
        check.due("document", Check.document(x), "5".repeat(38) + "97");
        x = Calls.after(text + "begin(40) add(7) keep(39) drop(1) finish(1) apply(1, 2)");
        check.due("moved to the back", Check.delta(x, 2), "40>40 D1 K39 A1 +9");
        check.due("document", Check.document(x), "71" + "5".repeat(38));
    }

    private static void theLimitOfTheDocumentHoldsAfterwards() {
        check.refused("add(3)*40 finish(1) apply(1, 2)", "type(4)", TextDelta.FULL);
        check.taken("add(3)*39 finish(1) apply(1, 2)", "type(4)", 40, "the document");
        check.taken("type(5)*40 begin(40) drop(1) finish(1) apply(1, 2)", "type(4)", 40, "the document");
        check.taken("type(5)*40 begin(40) drop(40) finish(1) apply(1, 2)", "type(4)", 1, "the document");
    }

    private static void aShorterWayBackOverALongerDelta() {
        TextDelta x = check.taken("add(3)*40 finish(2) begin(0) add(4) finish(1)", "apply(1, 2)", 1,
            "the document", "slot 2");
        check.due("slot 2", Check.delta(x, 2), "1>0 D1 +");
    }
}
