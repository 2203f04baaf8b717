import java.util.Arrays;

/**
 * Made-up documents, the same ones in every run, some of them damaged: no call throws what is not promised, answers agree
 * with one another, a judge that has judged others before answers as a new one does, and canonical bytes are their own.
 */
public final class RandomTest {
    private static final int NONE = MarkupJudge.NONE;
    private static final int[][] SIZES = {{0, 0}, {900, 16}, {1500, 24}};
    /** The most calls that an object is used for. */
    private static final int CALLS = 512;

    private final MarkupJudge[] veterans = new MarkupJudge[SIZES.length];
    private final int[] calls = new int[SIZES.length];
    private int formed;
    private int compared;

    private RandomTest() {
    }

    public static void main(String[] args) {
        RandomTest test = new RandomTest();
        MadeUp made = new MadeUp(20240229, true);
        for (int i = 0; i < 900; i++) {
            String text = made.document(i % 2 == 0);
            test.ask(made.next(4) == 0 ? made.damaged(text) : text, i % SIZES.length);
        }
        Check.due("enough of them are well formed", test.formed > 200 && test.formed < 800, true);
        Check.due("enough of them have canonical bytes", test.compared > 100, true);
        Check.finish();
    }

    private void ask(String text, int which) {
        MarkupJudge fresh = new MarkupJudge(SIZES[which][0], SIZES[which][1]);
        String told = told(fresh, text);
        Check.due(text, told(veteran(which, Check.utf8(text).length), text), told);
        formed += fresh.fault() == 0 ? 1 : 0;
        agree(fresh, text);
        ownCanonical(fresh, text);
    }

    /** One that has judged others before, as long as it may be asked so much more. */
    private MarkupJudge veteran(int which, int bytes) {
        int more = bytes / 20 + 80;
        if (veterans[which] == null || calls[which] + more > CALLS) {
            veterans[which] = new MarkupJudge(SIZES[which][0], SIZES[which][1]);
            calls[which] = 0;
        }
        calls[which] += more;
        return veterans[which];
    }

    /** What the judge says of a text, in few calls. */
    private static String told(MarkupJudge x, String text) {
        StringBuilder s = new StringBuilder();
        s.append(Check.judge(x, text)).append(' ').append(x.fault()).append(' ').append(x.place());
        s.append(' ').append(Check.violations(x)).append(' ').append(Check.spaces(x));
        s.append(' ').append(x.elements()).append(' ').append(x.characters()).append(' ').append(x.counted());
        int last = x.elements() - 1;
        s.append(' ').append(x.name(last, 0)).append(' ').append(x.parent(last)).append(' ').append(x.attributes(last));
        return s.append(' ').append(x.attribute(0, 0, 1, 0)).append(' ').append(x.canonical()).toString();
    }

    private static void agree(MarkupJudge x, String text) {
        int fault = x.fault();
        int place = x.place();
        Check.due(text + " fault", fault >= 0 && fault <= 14, true);
        Check.due(text + " place", fault == 0 ? place == NONE : place >= 0 && place <= Check.utf8(text).length, true);
        if (fault != 0) {
            Check.due(text + " no elements", x.elements(), 0);
            Check.due(text + " no violations", x.violations(1), NONE);
            Check.due(text + " no product", x.canonical(), NONE);
            return;
        }
        int last = x.elements();
        Check.due(text + " behind the last element", x.name(last, 0) + x.attributes(last) + x.parent(last), 3 * NONE);
        Check.due(text + " behind the last attribute", x.attribute(last - 1, x.attributes(last - 1), 0, 0), NONE);
        if (x.violations(0) == 1) {
            Check.due(text + " the others are none", Check.violations(x), "0:1");
        }
        if (!Check.spaces(x).isEmpty()) {
            Check.due(text + " refused", x.canonical(), -2);
        }
    }

    private void ownCanonical(MarkupJudge x, String text) {
        Check.due(text + " steady()", x.steady(), true);
        int n = x.canonical();
        if (n < 0 || Check.utf8(text).length / 20 + n + 200 > CALLS) {
            return;
        }
        compared++;
        byte[] first = Check.product(x);
        MarkupJudge enough = new MarkupJudge(0, 0);
        Check.due(text + " canonical bytes", Check.judge(enough, first), 1);
        Check.due(text + " canonical bytes", Check.spaces(enough), "");
        Check.due(text + " their own canonical bytes", enough.canonical(), first.length);
        Check.due(text + " are the same", Arrays.equals(first, Check.product(enough)), true);
        Check.due(text + " characters", enough.characters(), x.characters());
        Check.due(text + " elements", enough.elements(), x.elements());
    }
}
