/** Promises 10 to 13: type, clear, length, at. */
public final class DocumentTest {
    private static final Check check = new Check();

    public static void main(String[] args) {
        typeAppendsLetters();
        typeTestsInOrder();
        clearEmptiesTheDocumentAlone();
        atAnswersNoneOutside();
        check.end();
    }

    private static void typeAppendsLetters() {
        TextDelta x = new TextDelta();
        for (int c = 0; c <= 9; c++) {
            check.due("type(" + c + ")", x.type(c), c + 1);
            check.due("length()", x.length(), c + 1);
        }
        check.due("document", Check.document(x), "0123456789");
    }

    private static void typeTestsInOrder() {
        TextDelta x = new TextDelta();
        check.due("type(-1)", x.type(-1), TextDelta.BAD_ARG);
        check.due("type(10)", x.type(10), TextDelta.BAD_ARG);
        check.due("length()", x.length(), 0);
        for (int n = 1; n <= 40; n++) {
            check.due("type(7)", x.type(7), n);
        }
        check.due("type(8)", x.type(8), TextDelta.FULL);
        check.due("type(10)", x.type(10), TextDelta.BAD_ARG);
        check.due("type(least)", x.type(Integer.MIN_VALUE), TextDelta.BAD_ARG);
        check.due("document", Check.document(x), "7".repeat(40));
    }

    private static void clearEmptiesTheDocumentAlone() {
        TextDelta x = new TextDelta();
        Check.type(x, "123");
        Check.make(x, 0, 3, "a4 k1 d1");
        x.clear();
        check.due("state", Check.state(x), "\"\" [3>3 A1 K1 D1 K1 +4] [0>0 +] [0>0 +] [0>0 +]");
        check.due("at(0)", x.at(0), TextDelta.NONE);
        check.due("the work stays", x.add(1), 3);
        check.due("type(6)", x.type(6), 1);
        x.clear();
        x.clear();
        check.due("length()", x.length(), 0);
    }

    private static void atAnswersNoneOutside() {
        TextDelta x = new TextDelta();
        Check.type(x, "59");
        check.due("at(0)", x.at(0), 5);
        check.due("at(1)", x.at(1), 9);
        check.due("at(2)", x.at(2), TextDelta.NONE);
        check.due("at(-1)", x.at(-1), TextDelta.NONE);
        check.due("at(40)", x.at(40), TextDelta.NONE);
        check.due("at(least)", x.at(Integer.MIN_VALUE), TextDelta.NONE);
        check.due("at(greatest)", x.at(Integer.MAX_VALUE), TextDelta.NONE);
        Check.type(x, "1".repeat(38));
        check.due("at(39)", x.at(39), 1);
        check.due("at(40)", x.at(40), TextDelta.NONE);
    }
}
