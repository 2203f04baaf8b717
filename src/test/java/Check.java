import java.io.ByteArrayOutputStream;
import java.io.IOException;
import java.io.UncheckedIOException;
import java.nio.charset.StandardCharsets;
import java.nio.file.Files;
import java.nio.file.Path;

/** What all tests share: ways to ask a judge, and a count of the answers that are not as due. */
final class Check {
    private static final String DOCUMENT = "../shared/DOC.md";

    private static int asked = 0;
    private static int wrong = 0;
    private static String said = "";
    private static String document;
    private static MarkupJudge common;
    private static int calls = 0;

    private Check() {
    }

    /** The words of the document that what is asked from here on rests on; told with each answer that is not as due. */
    static void says(String... words) {
        said = " (the document: " + String.join(" .. ", words) + ")";
        for (String part : words) {
            due("the document says: " + part, document().isEmpty() || plain(document()).contains(plain(part)), true);
        }
    }

    /** The same words, however they are broken into lines. */
    static String plain(String text) {
        return text.replaceAll("\\s+", " ").trim();
    }

    /** The document, or nothing where it does not lie beside the project: then nobody looks for words in it. */
    static String document() {
        if (document == null) {
            boolean isThere = Files.exists(Path.of(DOCUMENT));
            document = isThere ? read(DOCUMENT) : "";
            System.out.print(isThere ? "" : "no " + DOCUMENT + ": its words are not compared\n");
        }
        return document;
    }

    /** A file of the project. */
    static String read(String path) {
        try {
            return Files.readString(Path.of(path));
        } catch (IOException e) {
            throw new UncheckedIOException(e);
        }
    }

    static void due(String what, long got, long want) {
        asked++;
        if (got != want) {
            wrong++;
            System.out.println(what + ": answered " + got + ", due is " + want + said);
        }
    }

    static void due(String what, String got, String want) {
        asked++;
        if (!want.equals(got)) {
            wrong++;
            System.out.println(what + ": answered [" + got + "], due is [" + want + "]" + said);
        }
    }

    static void due(String what, boolean got, boolean want) {
        due(what, got ? 1 : 0, want ? 1 : 0);
    }

    static void finish() {
        System.out.println(asked + " answers, " + wrong + " not as due");
        if (wrong != 0) {
            System.exit(1);
        }
    }

    static byte[] utf8(String text) {
        return text.getBytes(StandardCharsets.UTF_8);
    }

    static byte[] bytes(int... numbers) {
        byte[] row = new byte[numbers.length];
        for (int i = 0; i < row.length; i++) {
            row[i] = (byte) numbers[i];
        }
        return row;
    }

    static String text(int c) {
        return new String(Character.toChars(c));
    }

    /** These rows, one behind the other. */
    static byte[] joined(byte[]... rows) {
        int n = 0;
        for (byte[] row : rows) {
            n += row.length;
        }
        byte[] all = new byte[n];
        n = 0;
        for (byte[] row : rows) {
            System.arraycopy(row, 0, all, n, row.length);
            n += row.length;
        }
        return all;
    }

    /** Numbers of 16 bits, without a mark. */
    static byte[] wide(boolean lowFirst, int... numbers) {
        byte[] row = new byte[2 * numbers.length];
        for (int i = 0; i < numbers.length; i++) {
            row[2 * i + (lowFirst ? 1 : 0)] = (byte) (numbers[i] >> 8);
            row[2 * i + (lowFirst ? 0 : 1)] = (byte) numbers[i];
        }
        return row;
    }

    /** Puts these bytes in, in place of those that came in. */
    static void feed(MarkupJudge x, byte[] row) {
        x.end(0);
        for (int i = 0; i < row.length; i += 20) {
            int[] five = new int[5];
            for (int k = 0; k < 20; k++) {
                int b = i + k < row.length ? row[i + k] & 255 : 0;
                five[k / 4] |= b << 24 - k % 4 * 8;
            }
            x.feed(five[0], five[1], five[2], five[3], five[4]);
        }
        x.end(row.length);
    }

    static int judge(MarkupJudge x, byte[] row) {
        feed(x, row);
        return x.judge();
    }

    static int judge(MarkupJudge x, String text) {
        return judge(x, utf8(text));
    }

    /** A judge with all room, used before, if it was for fewer calls than the document allows; nobody keeps it. */
    private static MarkupJudge ready(int bytes) {
        int more = bytes / 20 + 8;
        if (common == null || calls + more > 512) {
            common = new MarkupJudge(0, 0);
            calls = 0;
        }
        calls += more;
        return common;
    }

    /** A new judge with all room, that has judged the text; it must be well formed. */
    static MarkupJudge formed(String text) {
        MarkupJudge x = new MarkupJudge(0, 0);
        if (judge(x, text) == 2) {
            due(text + " has fault " + x.fault() + " at " + x.place() + ", judge()", 2, 1);
        }
        return x;
    }

    /** A new judge to which so many bytes, more than can be fed in 512 calls, have come by back(). */
    static MarkupJudge filled(int n) {
        int rest = n - 7;
        MarkupJudge x = formed("<!DOCTYPE a [<!ENTITY e '" + "x".repeat(1000) + "'>]><a>" + "&e;".repeat(rest / 1000) + "x".repeat(rest % 1000) + "</a>");
        due("product of " + n, x.canonical(), n);
        due("back() of " + n, x.back(), n);
        return x;
    }

    static void faulty(byte[] row, String told, int fault, int place) {
        faulty(ready(row.length), row, told, fault, place);
    }

    static void faulty(String text, int fault, int place) {
        faulty(utf8(text), text, fault, place);
    }

    static void faulty(MarkupJudge x, byte[] row, String told, int fault, int place) {
        due(told + " judge()", judge(x, row), 2);
        due(told + " fault()", x.fault(), fault);
        due(told + " place()", x.place(), place);
    }

    static void good(String text) {
        byte[] row = utf8(text);
        MarkupJudge x = ready(row.length);
        due(text + " is well formed", judge(x, row) < 2, true);
        due(text + " fault()", x.fault(), 0);
        due(text + " place()", x.place(), MarkupJudge.NONE);
    }

    /** The violations that are not none, as "number:how many" with a space between. */
    static String violations(MarkupJudge x) {
        StringBuilder told = new StringBuilder();
        for (int k = 0; k < 23; k++) {
            tell(told, k, x.violations(k));
        }
        return told.toString();
    }

    static String spaces(MarkupJudge x) {
        StringBuilder told = new StringBuilder();
        for (int k = 0; k < 6; k++) {
            tell(told, k, x.spaces(k));
        }
        return told.toString();
    }

    private static void tell(StringBuilder told, int k, int many) {
        if (many != 0) {
            told.append(told.length() > 0 ? " " : "").append(k).append(':').append(many);
        }
    }

    static String name(MarkupJudge x, int e) {
        StringBuilder told = new StringBuilder();
        int c = x.name(e, 0);
        for (int i = 1; c != MarkupJudge.NONE; i++) {
            told.appendCodePoint(c);
            c = x.name(e, i);
        }
        return told.toString();
    }

    static String part(MarkupJudge x, int e, int a, int what) {
        StringBuilder told = new StringBuilder();
        int c = x.attribute(e, a, what, 0);
        for (int i = 1; c != MarkupJudge.NONE; i++) {
            told.appendCodePoint(c);
            c = x.attribute(e, a, what, i);
        }
        return told.toString();
    }

    static boolean feedThrows(MarkupJudge x) {
        try {
            x.feed(0x61616161, 0x61616161, 0x61616161, 0x61616161, 0x61616161);
            return false;
        } catch (IllegalStateException e) {
            return true;
        }
    }

    static boolean endThrows(MarkupJudge x, int n) {
        try {
            x.end(n);
            return false;
        } catch (IllegalArgumentException e) {
            return true;
        }
    }

    /** All that can be asked and changes nothing: of the last judge(), the document, the product and what came in. */
    static String state(MarkupJudge x) {
        StringBuilder told = new StringBuilder();
        told.append(x.fault()).append(' ').append(x.place()).append(" v ").append(violations(x)).append(" s ").append(spaces(x));
        told.append(" c ").append(x.characters()).append(' ').append(x.counted()).append(' ').append(x.elements());
        for (int e = 0; e < x.elements(); e++) {
            told.append(" <").append(name(x, e)).append(' ').append(x.parent(e));
            for (int a = 0; a < x.attributes(e); a++) {
                told.append(' ').append(part(x, e, a, 0)).append('=').append(part(x, e, a, 1));
            }
        }
        told.append(" product ").append(new String(product(x), StandardCharsets.ISO_8859_1)).append(" in ");
        int i = 0;
        int b = x.change(i, 0);
        while (b != MarkupJudge.NONE) {
            x.change(i, b);
            told.append((char) b);
            i++;
            b = x.change(i, 0);
        }
        return told.toString();
    }

    static byte[] product(MarkupJudge x) {
        ByteArrayOutputStream row = new ByteArrayOutputStream();
        int b = x.out(0);
        while (b != MarkupJudge.NONE) {
            row.write(b);
            b = x.out(row.size());
        }
        return row.toByteArray();
    }

    /** The canonical bytes as text, or the number that was answered in place of them. */
    static String canonical(MarkupJudge x) {
        int n = x.canonical();
        if (n < 0) {
            return Integer.toString(n);
        }
        byte[] row = product(x);
        due("canonical() against the product's length", n, row.length);
        return new String(row, StandardCharsets.UTF_8);
    }
}
