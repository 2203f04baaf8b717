/** Promises 1 to 4: a new object, feed, end, change; and how bytes become characters. */
public final class BytesTest {
    private BytesTest() {
    }

    public static void main(String[] args) {
        newObject();
        Check.finish();
    }

    private static void newObject() {
        MarkupJudge x = new MarkupJudge(0, 0);
        Check.due("new: fault()", x.fault(), 0);
        Check.due("new: place()", x.place(), -1);
        Check.due("new: elements()", x.elements(), 0);
        Check.due("new: end(0)", x.end(0), 0);
    }
}
