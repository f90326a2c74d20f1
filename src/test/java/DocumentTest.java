/** Promises 10 to 13: type, clear, length, at. */
public final class DocumentTest {
    private static final Check check = new Check();

    public static void main(String[] args) {
        typeAppendsLetters();
        clearEmptiesTheDocumentAlone();
        check.end();
    }

    private static void typeAppendsLetters() {
        TextDelta x = new TextDelta();
        for (int c = 0; c <= 9; c++) {
            check.due("type(" + c + ")", x.type(c), c + 1);
            check.due("length()", x.length(), c + 1);
        }
        check.due("document", Check.document(x), "0123456789");
    }

    private static void clearEmptiesTheDocumentAlone() {
        TextDelta x = new TextDelta();
        Check.type(x, "123");
        Check.make(x, 0, 3, "a4 k1 d1");
        x.clear();
        check.due("state", Check.state(x), "\"\" [3>3 A1 K1 D1 K1 +4] [0>0 +] [0>0 +] [0>0 +]");
        check.due("at(0)", x.at(0), TextDelta.NONE);
        check.due("the work stays", x.add(1), 3);
        check.due("type(6)", x.type(6), 1);
        x.clear();
        x.clear();
        check.due("length()", x.length(), 0);
    }
}
