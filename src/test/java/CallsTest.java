/** All calls in any order, against a plain copy of what came in and of the product; what is refused changes nothing. */
public final class CallsTest {
    private static final String[] TEXTS = {"<a/>", "<a b='c'>d</a>", "<a", "", "<p:a/>", "<a xmlns='x'/>", "<?t?><a>&#13;<b/></a>", "<!DOCTYPE a []><a/>"};
    private static final String[] PRODUCTS = {"<a></a>", "<a b=\"c\">d</a>", null, null, null, null, "<?t?>\n<a>&#xD;<b></b></a>", "<a></a>"};
    private static final int[] ANSWERS = {0, 0, -1, -1, -2, -3, 0, 0};

    private static long seed = 7;

    private CallsTest() {
    }

    public static void main(String[] args) {
        for (int run = 0; run < 40; run++) {
            new Run().go();
        }
        Check.finish();
    }

    private static int next(int bound) {
        seed = seed * 6364136223846793005L + 1442695040888963407L;
        return (int) ((seed >>> 33) % bound);
    }

    private static final class Run {
        private final MarkupJudge x = new MarkupJudge(0, 0);
        private final byte[] in = new byte[65536];
        private int count = 0;
        private byte[] product = new byte[0];
        private int document = -1;
        private int calls = 0;

        /** Each turn takes ten calls at most, and an object is used for 512. */
        void go() {
            while (calls <= 502) {
                switch (next(8)) {
                    case 0:
                        feed();
                        break;
                    case 1:
                        end(next(count + 20) - 5);
                        break;
                    case 2:
                        change(next(count + 10) - 5, next(300) - 20);
                        break;
                    case 3:
                        back();
                        break;
                    case 4:
                        canonical();
                        break;
                    case 5:
                        out(next(product.length + 4) - 2);
                        break;
                    case 6:
                        judge(next(TEXTS.length));
                        break;
                    default:
                        calls++;
                        Check.due("steady()", x.steady(), true);
                }
            }
        }

        private void feed() {
            int[] five = new int[5];
            for (int i = 0; i < 5; i++) {
                five[i] = next(1 << 16) << 16 | next(1 << 16);
            }
            boolean thrown = false;
            calls++;
            try {
                x.feed(five[0], five[1], five[2], five[3], five[4]);
            } catch (IllegalStateException e) {
                thrown = true;
            }
            Check.due("feed() throws", thrown ? 1 : 0, count + 20 > 65536 ? 1 : 0);
            for (int i = 0; i < 20 && !thrown; i++) {
                in[count + i] = (byte) (five[i / 4] >>> 24 - i % 4 * 8);
            }
            count += thrown ? 0 : 20;
        }

        private void end(int n) {
            boolean thrown = false;
            int answer = 0;
            calls++;
            try {
                answer = x.end(n);
            } catch (IllegalArgumentException e) {
                thrown = true;
            }
            Check.due("end() throws", thrown ? 1 : 0, n < 0 || n > count ? 1 : 0);
            if (!thrown) {
                Check.due("end()", answer, count);
                count = n;
            }
        }

        private void change(int i, int b) {
            boolean refused = i < 0 || i >= count || b < 0 || b > 255;
            calls++;
            Check.due("change()", x.change(i, b), refused ? -1 : in[i] & 255);
            if (!refused) {
                in[i] = (byte) b;
            }
        }

        private void back() {
            calls += 2;
            Check.due("back()", x.back(), product.length == 0 ? -1 : product.length);
            if (product.length > 0) {
                System.arraycopy(product, 0, in, 0, product.length);
                count = product.length;
            }
            Check.due("back() leaves the document", x.elements() > 0 ? 1 : 0, document >= 0 && ANSWERS[document] != -1 ? 1 : 0);
        }

        private void canonical() {
            int want = document < 0 ? -1 : ANSWERS[document];
            if (want == 0) {
                product = Check.utf8(PRODUCTS[document]);
                want = product.length;
            }
            calls++;
            Check.due("canonical()", x.canonical(), want);
        }

        private void out(int i) {
            calls++;
            Check.due("out()", x.out(i), i < 0 || i >= product.length ? -1 : product[i] & 255);
        }

        private void judge(int which) {
            calls += 4 + TEXTS[which].length() / 20;
            Check.feed(x, Check.utf8(TEXTS[which]));
            Check.due("judge()", x.judge(), ANSWERS[which] == -1 ? 2 : 1);
            document = which;
            count = 0;
        }
    }
}
