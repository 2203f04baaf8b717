import java.nio.charset.StandardCharsets;

/** What all tests share: ways to ask a judge, and a count of the answers that are not as due. */
final class Check {
    private static int asked = 0;
    private static int wrong = 0;

    private Check() {
    }

    static void due(String what, long got, long want) {
        asked++;
        if (got != want) {
            wrong++;
            System.out.println(what + ": answered " + got + ", due is " + want);
        }
    }

    static void due(String what, String got, String want) {
        asked++;
        if (!want.equals(got)) {
            wrong++;
            System.out.println(what + ": answered [" + got + "], due is [" + want + "]");
        }
    }

    static void finish() {
        System.out.println(asked + " answers, " + wrong + " not as due");
        if (wrong != 0) {
            System.exit(1);
        }
    }

    static byte[] utf8(String text) {
        return text.getBytes(StandardCharsets.UTF_8);
    }

    static byte[] bytes(int... numbers) {
        byte[] row = new byte[numbers.length];
        for (int i = 0; i < row.length; i++) {
            row[i] = (byte) numbers[i];
        }
        return row;
    }

    /** Puts these bytes in, in place of those that came in. */
    static void feed(MarkupJudge x, byte[] row) {
        x.end(0);
        for (int i = 0; i < row.length; i += 20) {
            int[] five = new int[5];
            for (int k = 0; k < 20; k++) {
                int b = i + k < row.length ? row[i + k] & 255 : 0;
                five[k / 4] |= b << 24 - k % 4 * 8;
            }
            x.feed(five[0], five[1], five[2], five[3], five[4]);
        }
        x.end(row.length);
    }

    static int judge(MarkupJudge x, byte[] row) {
        feed(x, row);
        return x.judge();
    }

    static int judge(MarkupJudge x, String text) {
        return judge(x, utf8(text));
    }

    /** A judge with all room, that has judged the text; it must be well formed. */
    static MarkupJudge formed(String text) {
        MarkupJudge x = new MarkupJudge(0, 0);
        if (judge(x, text) == 2) {
            due(text + " has fault " + x.fault() + " at " + x.place() + ", judge()", 2, 1);
        }
        return x;
    }

    static void faulty(byte[] row, String told, int fault, int place) {
        faulty(new MarkupJudge(0, 0), row, told, fault, place);
    }

    static void faulty(String text, int fault, int place) {
        faulty(utf8(text), text, fault, place);
    }

    static void faulty(MarkupJudge x, byte[] row, String told, int fault, int place) {
        due(told + " judge()", judge(x, row), 2);
        due(told + " fault()", x.fault(), fault);
        due(told + " place()", x.place(), place);
    }

    static void good(String text) {
        MarkupJudge x = formed(text);
        due(text + " fault()", x.fault(), 0);
        due(text + " place()", x.place(), MarkupJudge.NONE);
    }

    /** The violations that are not none, as "number:how many" with a space between. */
    static String violations(MarkupJudge x) {
        StringBuilder told = new StringBuilder();
        for (int k = 0; k < 23; k++) {
            if (x.violations(k) != 0) {
                told.append(told.length() > 0 ? " " : "").append(k).append(':').append(x.violations(k));
            }
        }
        return told.toString();
    }

    static String spaces(MarkupJudge x) {
        StringBuilder told = new StringBuilder();
        for (int k = 0; k < 6; k++) {
            if (x.spaces(k) != 0) {
                told.append(told.length() > 0 ? " " : "").append(k).append(':').append(x.spaces(k));
            }
        }
        return told.toString();
    }

    static String name(MarkupJudge x, int e) {
        StringBuilder told = new StringBuilder();
        for (int i = 0; x.name(e, i) != MarkupJudge.NONE; i++) {
            told.appendCodePoint(x.name(e, i));
        }
        return told.toString();
    }

    static String part(MarkupJudge x, int e, int a, int what) {
        StringBuilder told = new StringBuilder();
        for (int i = 0; x.attribute(e, a, what, i) != MarkupJudge.NONE; i++) {
            told.appendCodePoint(x.attribute(e, a, what, i));
        }
        return told.toString();
    }

    static byte[] product(MarkupJudge x) {
        int n = 0;
        while (x.out(n) != MarkupJudge.NONE) {
            n++;
        }
        byte[] row = new byte[n];
        for (int i = 0; i < n; i++) {
            row[i] = (byte) x.out(i);
        }
        return row;
    }

    /** The canonical bytes as text, or the number that was answered in place of them. */
    static String canonical(MarkupJudge x) {
        int n = x.canonical();
        if (n < 0) {
            return Integer.toString(n);
        }
        byte[] row = product(x);
        due("canonical() against the product's length", n, row.length);
        return new String(row, StandardCharsets.UTF_8);
    }
}
