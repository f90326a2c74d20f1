/** The boundary cases of the promises 10 to 13: type, clear, length, at. */
public final class BoundaryDocumentTest {
    private static final Check check = new Check();
    private static final String BUSY = Calls.BUSY;

    public static void main(String[] args) {
        typeRefusesWhatIsNoLetter();
        typeTakes0And9();
        typeTakesThe40thLetterAndNoMore();
        typeTestsBadArgBeforeFull();

        clearOfAnEmptyDocument();
        clearOfAFullDocument();
        clearLeavesAllElse();

        lengthOfAnEmptyDocument();
        lengthOfAFullDocument();
        lengthAfterARefusedCall();

        atHasNothingBefore0();
        atHasNothingBehindTheLastLetter();
        atOfAnEmptyDocument();
        atOfAFullDocument();
        atHasNothingOfALongerDocumentBefore();
        check.end();
    }

    // Promise 10: "c not 0 to 9 answers BAD_ARG"

    private static void typeRefusesWhatIsNoLetter() {
        for (int c : Calls.BAD_LETTERS) {
            check.refused(BUSY, Calls.text("type", c), TextDelta.BAD_ARG);
            check.refused("", Calls.text("type", c), TextDelta.BAD_ARG);
        }
    }

    private static void typeTakes0And9() {
        TextDelta x = check.taken(BUSY, "type(0)", 4, "the document");
        check.due("document", Check.document(x), "3140");
        x = check.taken(BUSY, "type(9)", 4, "the document");
        check.due("document", Check.document(x), "3149");
        x = check.taken("", "type(0)", 1, "the document");
        check.due("document", Check.document(x), "0");
    }

    // "the document has 40 letters answers FULL"

    private static void typeTakesThe40thLetterAndNoMore() {
        TextDelta x = check.taken("type(1)*39", "type(2)", 40, "the document");
        check.due("document", Check.document(x), "1".repeat(39) + "2");
        check.refused("type(1)*40", "type(2)", TextDelta.FULL);
        check.refused("type(1)*40", "type(0)", TextDelta.FULL);
        check.refused("type(1)*40", "type(9)", TextDelta.FULL);
        check.taken("type(1)*40 clear()", "type(2)", 1, "the document");
    }

    private static void typeTestsBadArgBeforeFull() {
        for (int c : Calls.BAD_LETTERS) {
            check.refused("type(1)*40", Calls.text("type", c), TextDelta.BAD_ARG);
        }
    }

    // Promise 11: "Empties the document."

    private static void clearOfAnEmptyDocument() {
        TextDelta x = check.taken("", "clear()", 0);
        check.due("length()", x.length(), 0);
        check.taken(BUSY + "clear()", "clear()", 0);
    }

    private static void clearOfAFullDocument() {
        TextDelta x = check.taken("type(1)*40", "clear()", 0, "the document");
        check.due("length()", x.length(), 0);
        check.due("at(0)", x.at(0), TextDelta.NONE);
        check.due("at(39)", x.at(39), TextDelta.NONE);
    }

    private static void clearLeavesAllElse() {
        TextDelta x = check.taken(BUSY, "clear()", 0, "the document");
        check.due("document", Check.document(x), "");
        x = check.taken(BUSY + "clear()", "type(5)", 1, "the document");
        check.due("document", Check.document(x), "5");
    }

    // Promise 12: "The number of letters of the document."

    private static void lengthOfAnEmptyDocument() {
        check.taken("", "length()", 0);
        check.taken(BUSY + "clear()", "length()", 0);
    }

    private static void lengthOfAFullDocument() {
        check.taken("type(1)", "length()", 1);
        check.taken("type(1)*39", "length()", 39);
        check.taken("type(1)*40", "length()", 40);
        check.taken("add(1)*40 finish(0) apply(0, 1)", "length()", 40);
    }

    private static void lengthAfterARefusedCall() {
        TextDelta x = Calls.after("type(1)*40");
        check.due("type(1)", x.type(1), TextDelta.FULL);
        check.due("length()", x.length(), 40);
        check.due("type(10)", x.type(10), TextDelta.BAD_ARG);
        check.due("length()", x.length(), 40);
        check.due("apply(0, 1)", x.apply(0, 1), TextDelta.BAD_LENGTH);
        check.due("length()", x.length(), 40);
    }

    // Promise 13: "NONE if there is none."

    private static void atHasNothingBefore0() {
        check.taken(BUSY, "at(0)", 3);
        check.refused(BUSY, "at(-1)", TextDelta.NONE);
        check.refused(BUSY, Calls.text("at", Integer.MIN_VALUE), TextDelta.NONE);
    }

    private static void atHasNothingBehindTheLastLetter() {
        check.taken(BUSY, "at(2)", 4);
        check.refused(BUSY, "at(3)", TextDelta.NONE);
        check.refused(BUSY, "at(40)", TextDelta.NONE);
        check.refused(BUSY, Calls.text("at", Integer.MAX_VALUE), TextDelta.NONE);
    }

    private static void atOfAnEmptyDocument() {
        check.refused("", "at(0)", TextDelta.NONE);
        check.refused("", "at(-1)", TextDelta.NONE);
        check.refused("", "at(39)", TextDelta.NONE);
    }

    private static void atOfAFullDocument() {
        check.taken("type(1) type(2)*38 type(3)", "at(0)", 1);
        check.taken("type(1) type(2)*38 type(3)", "at(39)", 3);
        check.refused("type(1) type(2)*38 type(3)", "at(40)", TextDelta.NONE);
        check.refused("type(1) type(2)*38 type(3)", "at(-1)", TextDelta.NONE);
    }

    private static void atHasNothingOfALongerDocumentBefore() {
        check.refused("type(1)*40 clear() type(2)", "at(1)", TextDelta.NONE);
        check.refused("type(1)*40 begin(40) drop(38) finish(0) apply(0, 1)", "at(2)", TextDelta.NONE);
    }
}
