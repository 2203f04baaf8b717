import java.nio.charset.StandardCharsets;

/** Promises 1 to 4 (a new object, feed, end, change), and how bytes become characters. */
public final class BytesTest {
    private static final int NONE = MarkupJudge.NONE;

    private BytesTest() {
    }

    public static void main(String[] args) {
        newObject();
        feedTakesTwentyBytes();
        feedHasALimit();
        endCuts();
        changeOneByte();
        judgeUsesUp();
        eightBits();
        brokenEightBits();
        sixteenBits();
        brokenSixteenBits();
        lineEnds();
        Check.finish();
    }

    private static void newObject() {
        Check.due("NONE", NONE, -1);
        int[][] sizes = {{0, 0}, {64, 16}, {98304, 16384}, {-5, 1 << 30}};
        for (int[] size : sizes) {
            MarkupJudge x = new MarkupJudge(size[0], size[1]);
            Check.due("new: fault()", x.fault(), 0);
            Check.due("new: place()", x.place(), NONE);
            Check.due("new: violations(0)", x.violations(0), NONE);
            Check.due("new: spaces(0)", x.spaces(0), NONE);
            Check.due("new: elements()", x.elements(), 0);
            Check.due("new: attributes(0)", x.attributes(0), NONE);
            Check.due("new: parent(0)", x.parent(0), NONE);
            Check.due("new: name(0, 0)", x.name(0, 0), NONE);
            Check.due("new: attribute(0, 0, 0, 0)", x.attribute(0, 0, 0, 0), NONE);
            Check.due("new: characters()", x.characters(), 0);
            Check.due("new: counted()", x.counted(), 0);
            Check.due("new: canonical()", x.canonical(), NONE);
            Check.due("new: out(0)", x.out(0), NONE);
            Check.due("new: back()", x.back(), NONE);
            Check.due("new: steady()", x.steady() ? 1 : 0, 1);
            Check.due("new: change(0, 0)", x.change(0, 0), NONE);
            Check.due("new: end(0)", x.end(0), 0);
        }
    }

    private static void feedTakesTwentyBytes() {
        MarkupJudge x = new MarkupJudge(0, 0);
        x.feed(0x00010203, 0x7F80FFFE, -1, 0x0A0B0C0D, 0x10203040);
        int[] want = {0, 1, 2, 3, 127, 128, 255, 254, 255, 255, 255, 255, 10, 11, 12, 13, 16, 32, 48, 64};
        for (int i = 0; i < 20; i++) {
            Check.due("byte " + i, x.change(i, 0), want[i]);
        }
        Check.due("byte 20", x.change(20, 0), NONE);
        x.feed(0, 0, 0, 0, 0x99);
        Check.due("byte 39", x.change(39, 0), 0x99);
        Check.due("end", x.end(40), 40);
    }

    private static void feedHasALimit() {
        MarkupJudge x = Check.filled(65460);
        for (int n = 65460; n < 65520; n += 20) {
            Check.due("feed behind " + n, Check.feedThrows(x), false);
        }
        Check.due("65520 and 20 throw", Check.feedThrows(x), true);
        Check.due("nothing changed", x.end(65517), 65520);
        Check.due("65517 and 20 throw", Check.feedThrows(x), true);
        Check.due("nothing changed", x.end(65516), 65517);
        Check.due("65516 and 20", Check.feedThrows(x), false);
        Check.due("full", x.end(65536), 65536);
        Check.due("full and 20 throw", Check.feedThrows(x), true);
        Check.due("the last byte", x.change(65535, 0), 'a');
        Check.due("behind it", x.change(65536, 0), NONE);
    }

    private static void endCuts() {
        MarkupJudge x = new MarkupJudge(0, 0);
        Check.due("end(1) of none throws", Check.endThrows(x, 1), true);
        Check.due("end(-1) throws", Check.endThrows(x, -1), true);
        x.feed(1, 2, 3, 4, 5);
        Check.due("end(21) throws", Check.endThrows(x, 21), true);
        Check.due("end(-1) throws", Check.endThrows(x, -1), true);
        Check.due("end(MIN) throws", Check.endThrows(x, Integer.MIN_VALUE), true);
        Check.due("end(MAX) throws", Check.endThrows(x, Integer.MAX_VALUE), true);
        Check.due("end(20)", x.end(20), 20);
        Check.due("end(3)", x.end(3), 20);
        Check.due("end(4) throws", Check.endThrows(x, 4), true);
        Check.due("end(0)", x.end(0), 3);
        Check.due("end(0)", x.end(0), 0);
        Check.feed(x, Check.utf8("<a/>"));
        x.feed(0x3C622F3E, 0, 0, 0, 0);
        x.end(8);
        Check.due("fed behind the cut", x.judge(), 2);
        Check.due("at the second root", x.place(), 4);
    }

    private static void changeOneByte() {
        MarkupJudge x = new MarkupJudge(0, 0);
        Check.feed(x, Check.utf8("<a></b>"));
        Check.due("change(-1, 1)", x.change(-1, 1), NONE);
        Check.due("change(7, 1)", x.change(7, 1), NONE);
        Check.due("change(1, -1)", x.change(1, -1), NONE);
        Check.due("change(1, 256)", x.change(1, 256), NONE);
        Check.due("change(1, 255)", x.change(1, 255), 'a');
        Check.due("change(1, 'b')", x.change(1, 'b'), 255);
        Check.due("changed to <b></b>", x.judge(), 1);
        Check.due("its name", x.name(0, 0), 'b');
    }

    private static void judgeUsesUp() {
        MarkupJudge x = new MarkupJudge(0, 0);
        Check.due("<a/>", Check.judge(x, "<a/>"), 1);
        Check.due("used up", x.end(0), 0);
        Check.due("change", x.change(0, 1), NONE);
        Check.due("the document stays with feed", x.elements(), 1);
        x.feed(1, 2, 3, 4, 5);
        Check.due("the document stays with feed", x.elements(), 1);
        Check.due("bad bytes", x.judge(), 2);
        Check.due("used up", x.end(0), 0);
        Check.due("no document", x.elements(), 0);
    }

    private static void eightBits() {
        int[] edges = {9, 32, 127, 128, 2047, 2048, 55295, 57344, 65533, 65536, 1114111};
        for (int c : edges) {
            String text = "<a>" + new String(Character.toChars(c)) + "</a>";
            MarkupJudge x = Check.formed(text);
            Check.due("characters with " + c, x.characters(), 1);
            Check.due("canonical with " + c, Check.canonical(x), text);
        }
        MarkupJudge x = new MarkupJudge(0, 0);
        Check.due("marked as of 8 bits", Check.judge(x, Check.bytes(239, 187, 191, '<', 'a', '/', '>')), 1);
        Check.due("the mark is taken off", x.counted(), 4);
        Check.faulty(Check.bytes(239, 187, 191, 239, 187, 191, '<', 'a', '/', '>'), "a second mark", 6, 0);
    }

    private static void brokenEightBits() {
        int[][] rows = {{0}, {8}, {11}, {12}, {14}, {31}, {128}, {191}, {192, 128}, {193, 191}, {194}, {194, 65}, {194, 192},
            {224, 128, 128}, {224, 159, 191}, {224, 160}, {224, 160, 65}, {237, 160, 128}, {237, 191, 191}, {239, 191, 190},
            {239, 191, 191}, {240, 128, 128, 128}, {240, 143, 191, 191}, {240, 144, 128}, {240, 144, 128, 65},
            {244, 144, 128, 128}, {247, 191, 191, 191}, {248, 136, 128, 128, 128}, {254}, {255}, {255, 255}, {254, 254}};
        for (int[] row : rows) {
            byte[] bytes = Check.bytes(row);
            byte[] first = new byte[row.length + 3];
            System.arraycopy(Check.utf8("<\u00e9"), 0, first, 0, 3);
            System.arraycopy(bytes, 0, first, 3, row.length);
            Check.faulty(first, "broken " + row[0], 1, 3);
            if (row[0] != 254 && row[0] != 255) {
                Check.faulty(bytes, "alone " + row[0], 1, 0);
                byte[] marked = new byte[row.length + 3];
                System.arraycopy(Check.bytes(239, 187, 191), 0, marked, 0, 3);
                System.arraycopy(bytes, 0, marked, 3, row.length);
                Check.faulty(marked, "marked " + row[0], 1, 3);
            }
        }
        Check.faulty(Check.bytes(239, 187), "half a mark", 1, 0);
        Check.faulty(Check.bytes(255), "half a mark", 1, 0);
        Check.faulty(Check.bytes(254), "half a mark", 1, 0);
        Check.faulty(Check.bytes(255, 255), "no mark", 1, 0);
        Check.faulty(Check.bytes(254, 254), "no mark", 1, 0);
        Check.faulty(Check.bytes(255, 60, 97, 47), "no mark", 1, 0);
        Check.faulty(Check.bytes(60, 254, 60, 97), "no mark", 1, 1);
        Check.faulty(Check.bytes(60, 255, 60, 97), "no mark", 1, 1);
        Check.faulty(Check.bytes('x', '<', '<', 0), "before any other fault", 1, 3);
        cut(Check.utf8("<a>\u00e9\u00e9</a>"), 4, 3);
        cut(Check.utf8("<a>\u20ac</a>"), 5, 3);
        cut(Check.utf8("<a>\ud83d\ude00</a>"), 6, 3);
        MarkupJudge small = new MarkupJudge(64, 16);
        byte[] row = Check.utf8("x".repeat(70) + "\u0001");
        Check.faulty(small, row, "before fault 4", 1, 70);
    }

    /** Cut within a character: what came in behind the cut does not make it whole. */
    private static void cut(byte[] row, int n, int place) {
        MarkupJudge x = new MarkupJudge(0, 0);
        Check.feed(x, row);
        x.end(n);
        Check.due("cut at " + n, x.judge(), 2);
        Check.due("cut at " + n, x.fault(), 1);
        Check.due("cut at " + n, x.place(), place);
    }

    private static byte[] wide(String text, boolean lowFirst) {
        byte[] row = text.getBytes(lowFirst ? StandardCharsets.UTF_16LE : StandardCharsets.UTF_16BE);
        byte[] marked = new byte[row.length + 2];
        marked[0] = (byte) (lowFirst ? 255 : 254);
        marked[1] = (byte) (lowFirst ? 254 : 255);
        System.arraycopy(row, 0, marked, 2, row.length);
        return marked;
    }

    private static void sixteenBits() {
        int[] edges = {9, 32, 255, 256, 55295, 57344, 65533, 65536, 66559, 66560, 1114111};
        for (int c : edges) {
            String text = "<a>" + new String(Character.toChars(c)) + "</a>";
            for (int low = 0; low < 2; low++) {
                MarkupJudge x = new MarkupJudge(0, 0);
                Check.due("16 bits " + c, Check.judge(x, wide(text, low == 1)), 1);
                Check.due("characters " + c, x.characters(), 1);
                Check.due("counted " + c, x.counted(), 8);
                Check.due("canonical " + c, Check.canonical(x), text);
            }
        }
        Check.faulty(Check.bytes(254, 255), "no text of 16 bits", 6, 0);
        Check.faulty(Check.bytes(255, 254), "no text of 16 bits", 6, 0);
        Check.faulty(wide("\ufeff<a/>", false), "a second mark", 6, 0);
    }

    private static void brokenSixteenBits() {
        Check.faulty(Check.bytes(254, 255, 0), "half a number", 1, 2);
        Check.faulty(Check.bytes(255, 254, 60, 0, 60), "half a number", 1, 4);
        int[][] rows = {{0xD800}, {0xDBFF, 0x41}, {0xDC00}, {0xDFFF, 0xD800}, {0xD800, 0xD800, 0xDC00}, {0xFFFE}, {0xFFFF}, {0},
            {11}, {31}};
        for (int[] row : rows) {
            byte[] bytes = new byte[4 + 2 * row.length];
            bytes[0] = (byte) 254;
            bytes[1] = (byte) 255;
            bytes[3] = '<';
            for (int i = 0; i < row.length; i++) {
                bytes[4 + 2 * i] = (byte) (row[i] >> 8);
                bytes[5 + 2 * i] = (byte) row[i];
            }
            Check.faulty(bytes, "broken 16 bits " + row[0], 1, 4);
        }
        Check.faulty(Check.bytes(254, 255, 0xD8, 0, 0), "a first half and half a number", 1, 2);
        Check.faulty(wide("<a>\ud83d\ude00", false), "two halves at the end", 6, 4);
        cut(wide("<a>\ud83d\ude00</a>", false), 11, 8);
        cut(wide("<a>\ud83d\ude00</a>", true), 11, 8);
        cut(wide("<a>\ud83d\ude00</a>", true), 10, 8);
        cut(wide("<a>\ud83d\ude00</a>", true), 9, 8);
    }

    private static void lineEnds() {
        MarkupJudge x = Check.formed("<a>\r\n\r\r\n\n\r</a>");
        Check.due("line ends are one 10 each", x.characters(), 5);
        Check.due("counted", x.counted(), 12);
        Check.due("canonical", Check.canonical(x), "<a>\n\n\n\n\n</a>");
        Check.faulty("\r\n\r<a>\r\n", 6, 6);
        Check.faulty("\r\n\r\nx", 6, 2);
        x = Check.formed("<a b='\r\n\r'/>");
        Check.due("value", Check.part(x, 0, 0, 1), "  ");
    }
}
