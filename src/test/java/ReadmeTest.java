/** The example of README.md. */
public final class ReadmeTest {
    public static void main(String[] args) {
        Check check = new Check();
        TextDelta x = new TextDelta();
        Check.type(x, "123");
        check.due("slot 0", Check.make(x, 0, 3, "k1 d1 a7"), 3);
        check.due("slot 1", Check.make(x, 1, 3, "a9"), 4);
        check.due("carry(1, 0, 1, 1)", x.carry(1, 0, 1, 1), 4);
        check.due("apply(0, 2)", x.apply(0, 2), 3);
        check.due("document", Check.document(x), "173");
        check.due("apply(1, 3)", x.apply(1, 3), 4);
        check.due("document", Check.document(x), "9173");
        check.due("join(3, 2, 0)", x.join(3, 2, 0), 3);
        check.due("slot 0", Check.delta(x, 0), "4>3 D1 K1 A1 D1 K1 +2");
        check.due("run(0, 1)", x.run(0, 1), TextDelta.KEEP + 4);
        x.apply(0, 0);
        check.due("document", Check.document(x), "123");
        check.end();
    }
}
