/** The edges of how bytes become characters, and characters the text. */
public final class EdgeBytesTest {
    private static final int[] CHARACTERS = {9, 10, 13, 32, 55295, 57344, 65533, 65536, 1114111};
    private static final int[] NO_CHARACTERS = {0, 1, 8, 11, 12, 14, 31, 55296, 57343, 65534, 65535, 1114112};
    private static final byte[] BEFORE = Check.utf8("<a>");
    private static final byte[] BEHIND = Check.utf8("</a>");

    private EdgeBytesTest() {
    }

    public static void main(String[] args) {
        charactersOfEightBits();
        charactersOfSixteenBits();
        charactersByReference();
        marks();
        almostMarks();
        cutMarks();
        leadingBytes();
        leastNumbers();
        bytesBehind();
        pairs();
        brokenPairs();
        endsWithin();
        lineEnds();
        spaces();
        faultOneComesFirst();
        Check.finish();
    }

    /** The number in so many bytes, also when they are more than it needs. */
    private static byte[] narrow(int c, int size) {
        if (size == 1) {
            return Check.bytes(c);
        }
        byte[] row = new byte[size];
        for (int i = size - 1; i > 0; i--) {
            row[i] = (byte) (128 | c & 63);
            c >>= 6;
        }
        row[0] = (byte) (256 - (256 >> size) & 255 | c);
        return row;
    }

    private static byte[] narrow(int c) {
        return narrow(c, c < 128 ? 1 : c < 2048 ? 2 : c < 65536 ? 3 : 4);
    }

    private static byte[] inElement(byte[] row) {
        return Check.joined(BEFORE, row, BEHIND);
    }

    /** One character in an element, which is that number. */
    private static void one(String told, byte[] row, int c) {
        MarkupJudge x = new MarkupJudge(64, 16);
        Check.due(told + " judge()", Check.judge(x, row), 1);
        Check.due(told + " characters()", x.characters(), 1);
        Check.due(told + " counted()", x.counted(), 8);
        if (c > 13) {
            Check.due(told + " canonical", Check.canonical(x), "<a>" + Check.text(c) + "</a>");
        }
    }

    private static void faulty(String told, byte[] row, int fault, int place) {
        Check.faulty(new MarkupJudge(64, 16), row, told, fault, place);
    }

    private static void charactersOfEightBits() {
        Check.says("CHARACTERS are the numbers 9, 10, 13, 32 ..", "55295, 57344 .. 65533, 65536 .. 1114111.");
        for (int c : CHARACTERS) {
            one("8 bits, " + c, inElement(narrow(c)), c);
        }
        for (int c : NO_CHARACTERS) {
            faulty("8 bits, " + c, inElement(narrow(c)), 1, 3);
            faulty("8 bits at once, " + c, narrow(c), 1, 0);
            faulty("marked 8 bits, " + c, Check.joined(Check.bytes(239, 187, 191), inElement(narrow(c))), 1, 6);
        }
    }

    private static byte[] wideElement(boolean lowFirst, int... numbers) {
        return Check.joined(Check.wide(lowFirst, 65279), Check.wide(lowFirst, '<', 'a', '>'), Check.wide(lowFirst, numbers),
            Check.wide(lowFirst, '<', '/', 'a', '>'));
    }

    private static void charactersOfSixteenBits() {
        Check.says("CHARACTERS are the numbers 9, 10, 13, 32 ..", "55295, 57344 .. 65533, 65536 .. 1114111.");
        for (int low = 0; low < 2; low++) {
            for (int c : CHARACTERS) {
                if (c < 65536) {
                    one("16 bits, " + c, wideElement(low == 1, c), c);
                }
            }
            for (int c : NO_CHARACTERS) {
                if (c < 65536) {
                    faulty("16 bits, " + c, wideElement(low == 1, c), 1, 8);
                    faulty("16 bits at once, " + c, Check.wide(low == 1, 65279, c), 1, 2);
                }
            }
        }
    }

    private static void charactersByReference() {
        Check.says("Fault 12: to no character.");
        for (int c : CHARACTERS) {
            String[] ways = {"&#" + c + ";", "&#x" + Integer.toHexString(c) + ";", "&#x000" + Integer.toHexString(c).toUpperCase() + ";"};
            for (String way : ways) {
                MarkupJudge x = Check.formed("<a b='" + way + "'>" + way + "</a>");
                Check.due(way, x.attribute(0, 0, 1, 0), c);
                Check.due(way, x.attribute(0, 0, 1, 1), -1);
                Check.due(way, x.characters(), 1);
                Check.good("<!DOCTYPE a [<!ATTLIST a b CDATA '" + way + "'><!ENTITY e '" + way + "'>]><a/>");
            }
        }
        for (int c : NO_CHARACTERS) {
            String[] ways = {"&#" + c + ";", "&#x" + Integer.toHexString(c) + ";"};
            for (String way : ways) {
                Check.faulty("<a>" + way + "</a>", 12, 3);
                Check.faulty("<a b='" + way + "'/>", 12, 0);
                Check.faulty("<!DOCTYPE a [<!ATTLIST a b CDATA '" + way + "'>]><a/>", 12, 13);
                Check.faulty("<!DOCTYPE a [<!ENTITY e '" + way + "'>]><a/>", 12, 13);
            }
        }
        // numbers that would come round to a character
        String[] large = {"2147483648", "2147483657", "4294967296", "4294967305", "4294967328", "18446744073709551648", "1" + "0".repeat(300)};
        for (String s : large) {
            Check.faulty("<a>&#" + s + ";</a>", 12, 3);
            Check.faulty("<a>&#x" + s + ";</a>", 12, 3);
            Check.faulty("<a b='&#" + s + ";'/>", 12, 0);
        }
        Check.good("<a>&#" + "0".repeat(300) + "32;&#x" + "0".repeat(300) + "10FFFF;</a>");
    }

    private static void marks() {
        Check.says("Bytes that begin with 254, 255 are of 16 bits, the higher byte first, with 255, 254 of 16 bits, the lower one first, "
            + "with 239, 187, 191 of 8 bits; these first ones are taken off. All others are of 8 bits.");
        byte[] high = Check.wide(false, '<', 'a', '/', '>');
        byte[] low = Check.wide(true, '<', 'a', '/', '>');
        byte[] eight = Check.utf8("<a/>");
        byte[][] good = {Check.joined(Check.bytes(254, 255), high), Check.joined(Check.bytes(255, 254), low),
            Check.joined(Check.bytes(239, 187, 191), eight), eight};
        for (byte[] row : good) {
            MarkupJudge x = new MarkupJudge(0, 0);
            Check.due("marked with " + (row[0] & 255), Check.judge(x, row), 1);
            Check.due("marked with " + (row[0] & 255), x.counted(), 4);
            Check.due("marked with " + (row[0] & 255), Check.name(x, 0), "a");
        }
        // nothing behind the mark: the text ends before the root
        faulty("a mark alone", Check.bytes(254, 255), 6, 0);
        faulty("a mark alone", Check.bytes(255, 254), 6, 0);
        faulty("a mark alone", Check.bytes(239, 187, 191), 6, 0);
        faulty("nothing", new byte[0], 6, 0);
        // the other order than the mark says
        faulty("low ones behind the high mark", Check.joined(Check.bytes(254, 255), low), 6, 0);
        faulty("high ones behind the low mark", Check.joined(Check.bytes(255, 254), high), 6, 0);
        faulty("16 bits without a mark", high, 1, 0);
        faulty("16 bits without a mark", low, 1, 1);
        faulty("16 bits behind the mark of 8 bits", Check.joined(Check.bytes(239, 187, 191), low), 1, 4);
    }

    private static void almostMarks() {
        Check.says("these first ones are taken off. All others are of 8 bits.");
        int[][] broken = {{254}, {255}, {239}, {239, 187}, {254, 254}, {255, 255}, {254, 0}, {255, 0}, {253, 255}, {255, 253},
            {239, 187, 192}, {239, 187, 127}, {239, 192, 191}};
        for (int[] row : broken) {
            faulty("almost a mark " + row[0], Check.bytes(row), 1, 0);
            byte[] more = Check.joined(Check.bytes(row), Check.utf8("<a/>"));
            faulty("almost a mark, and more " + row[0], more, 1, 0);
        }
        int[][] characters = {{239, 187, 190}, {239, 186, 191}, {238, 187, 191}};
        for (int[] row : characters) {
            faulty("a character " + row[0], Check.joined(Check.bytes(row), Check.utf8("<a/>")), 6, 0);
        }
        // a mark is taken off once, and at the begin alone
        byte[] mark = Check.bytes(239, 187, 191);
        faulty("a second mark of 8 bits", Check.joined(mark, mark, Check.utf8("<a/>")), 6, 0);
        faulty("a second mark of 16 bits", Check.wide(false, 65279, 65279, '<', 'a', '/', '>'), 6, 0);
        faulty("a second mark of 16 bits", Check.wide(true, 65279, 65279, '<', 'a', '/', '>'), 6, 0);
        one("a mark in the root", inElement(mark), 65279);
        one("a mark in the root", wideElement(false, 65279), 65279);
        faulty("a mark behind a space", Check.joined(Check.utf8(" "), mark, Check.utf8("<a/>")), 6, 1);
    }

    /** What came in and was cut off again makes no mark whole. */
    private static void cutMarks() {
        Check.says("The bytes that came in are only the first n.");
        int[][] rows = {{254, 255}, {255, 254}, {239, 187, 191}, {239, 187, 191, 60}};
        for (int[] row : rows) {
            for (int n = 1; n <= 3; n++) {
                MarkupJudge x = new MarkupJudge(64, 16);
                Check.feed(x, Check.joined(Check.bytes(row), Check.utf8("<a/>")));
                x.end(n);
                Check.due("cut to " + n, x.judge(), 2);
                boolean whole = n >= (row[0] == 239 ? 3 : 2);
                boolean half = row[0] != 239 && n == 3;
                Check.due(n + " of a mark " + row[0], x.fault(), whole && !half ? 6 : 1);
                Check.due(n + " of a mark " + row[0], x.place(), half ? 2 : 0);
            }
        }
        // nor does what an earlier document began with
        MarkupJudge x = new MarkupJudge(64, 16);
        Check.judge(x, Check.wide(false, 65279, '<', 'a', '/', '>'));
        Check.due("no bytes", x.judge(), 2);
        Check.due("no bytes", x.fault(), 6);
        Check.due("8 bits behind 16", Check.judge(x, "<a/>"), 1);
        Check.due("16 bits behind 8", Check.judge(x, Check.wide(true, 65279, '<', 'a', '/', '>')), 1);
    }

    private static void leadingBytes() {
        Check.says("8 BITS: a byte 0 .. 127 is itself; otherwise 110xxxxx, 1110xxxx or 11110xxx with 1, 2 or 3 bytes 10xxxxxx behind it");
        for (int lead = 0; lead < 256; lead++) {
            int size = lead < 128 ? 1 : lead < 192 ? 0 : lead < 224 ? 2 : lead < 240 ? 3 : lead < 248 ? 4 : 0;
            byte[] row = Check.bytes(lead, 175, 175, 175);
            byte[] taken = new byte[Math.max(size, 1)];
            System.arraycopy(row, 0, taken, 0, taken.length);
            int c = lead;
            if (size > 1) {
                c = lead & (255 >> size + 1);
                for (int i = 1; i < size; i++) {
                    c = c << 6 | 47;
                }
            }
            boolean fits = size == 1 || size == 2 && c >= 128 || size == 3 && c >= 2048 || size == 4 && c >= 65536;
            boolean character = c == 9 || c == 10 || c == 13 || c >= 32 && c <= 55295 || c >= 57344 && c <= 65533 || c >= 65536 && c <= 1114111;
            if (!fits || !character) {
                faulty("leading byte " + lead, inElement(taken), 1, 3);
                for (int more = 1; more < 6; more++) {
                    byte[] behind = new byte[more];
                    java.util.Arrays.fill(behind, (byte) 144);
                    if (size == 0) {
                        faulty("leading byte " + lead + " with " + more, inElement(Check.joined(taken, behind)), 1, 3);
                    }
                }
            } else if (lead != '<' && lead != '&') {
                MarkupJudge x = new MarkupJudge(0, 0);
                Check.due("leading byte " + lead, Check.judge(x, inElement(taken)), 1);
                Check.due("leading byte " + lead, x.characters(), 1);
            }
        }
    }

    private static void leastNumbers() {
        Check.says("for numbers from 128, 2048, 65536 on");
        int[][] good = {{127, 1}, {128, 2}, {129, 2}, {2047, 2}, {2048, 3}, {2049, 3}, {65533, 3}, {65536, 4}, {65537, 4}, {1114111, 4}};
        for (int[] pair : good) {
            one(pair[0] + " in " + pair[1], inElement(narrow(pair[0], pair[1])), pair[0]);
        }
        int[][] bad = {{0, 2}, {10, 2}, {97, 2}, {127, 2}, {97, 3}, {127, 3}, {128, 3}, {2047, 3}, {97, 4}, {2047, 4}, {2048, 4}, {65533, 4},
            {65535, 4}, {1114112, 4}, {2097151, 4}};
        for (int[] pair : bad) {
            faulty(pair[0] + " in " + pair[1], inElement(narrow(pair[0], pair[1])), 1, 3);
        }
    }

    private static void bytesBehind() {
        Check.says("with 1, 2 or 3 bytes 10xxxxxx behind it");
        int[][] rows = {{195, 169}, {227, 129, 130}, {241, 129, 130, 131}};
        for (int[] row : rows) {
            for (int at = 1; at < row.length; at++) {
                for (int b = 0; b < 256; b++) {
                    int[] other = row.clone();
                    other[at] = b;
                    byte[] bytes = inElement(Check.bytes(other));
                    if (b >= 128 && b <= 191) {
                        MarkupJudge x = new MarkupJudge(64, 16);
                        Check.due("byte " + b + " at " + at + " of " + row.length, Check.judge(x, bytes), 1);
                        Check.due("byte " + b + " at " + at + " of " + row.length, x.characters(), 1);
                    } else {
                        faulty("byte " + b + " at " + at + " of " + row.length, bytes, 1, 3);
                    }
                }
            }
        }
    }

    private static void pairs() {
        Check.says("16 BITS: a number 55296 .. 56319 with one 56320 .. 57343 behind it is 65536 and 1024 times how far the first is from 55296 "
            + "and how far the second is from 56320; any other one is itself.");
        int[][] pairs = {{55296, 56320, 65536}, {55296, 56321, 65537}, {55296, 57343, 66559}, {55297, 56320, 66560}, {56319, 56320, 1113088},
            {56319, 57343, 1114111}};
        for (int low = 0; low < 2; low++) {
            for (int[] pair : pairs) {
                one("pair for " + pair[2], wideElement(low == 1, pair[0], pair[1]), pair[2]);
            }
            one("just below", wideElement(low == 1, 55295), 55295);
            one("just above", wideElement(low == 1, 57344), 57344);
        }
    }

    private static void brokenPairs() {
        Check.says("any other one is itself");
        int[][] rows = {{55296}, {56319}, {56320}, {57343}, {55296, 56319}, {55296, 57344}, {56319, 55296, 56320}, {56320, 56320}, {56320, 55296},
            {57343, 57343}, {55296, 32}, {55296, 55295}, {55297, 56319}, {56318, 57344}};
        for (int low = 0; low < 2; low++) {
            for (int[] row : rows) {
                faulty("broken " + row[0], wideElement(low == 1, row), 1, 8);
                faulty("broken behind one that is itself", wideElement(low == 1, 55295, 56320), 1, 10);
                faulty("broken behind one that is itself", wideElement(low == 1, 57344, 56320), 1, 10);
                faulty("broken " + row[0] + " behind a pair", Check.joined(Check.wide(low == 1, 65279, 55296, 56320), Check.wide(low == 1, row)), 1, 6);
            }
        }
    }

    private static void endsWithin() {
        Check.says("Where that can't be done, the bytes end within one, or what comes is no character, that is FAULT 1, at how many bytes there were before "
            + "(those taken off counted).");
        byte[][] rows = {narrow(233), narrow(8364), narrow(128512)};
        for (byte[] row : rows) {
            for (int n = 1; n < row.length; n++) {
                byte[] part = new byte[n];
                System.arraycopy(row, 0, part, 0, n);
                faulty(n + " of " + row.length, part, 1, 0);
                faulty(n + " of " + row.length, Check.joined(BEFORE, part), 1, 3);
                faulty(n + " of " + row.length, Check.joined(BEFORE, row, part), 1, 3 + row.length);
                faulty(n + " of " + row.length, Check.joined(Check.bytes(239, 187, 191), BEFORE, part), 1, 6);
            }
            faulty("all of " + row.length, Check.joined(BEFORE, row), 6, 4);
        }
        for (int low = 0; low < 2; low++) {
            byte[] wide = Check.wide(low == 1, 65279, '<', 'a', '>', 55357, 56832);
            int[] places = {0, 0, 0, 2, 0, 4, 0, 6, 0, 8, 8, 8, 0};
            for (int n = 3; n <= 12; n++) {
                byte[] part = new byte[n];
                System.arraycopy(wide, 0, part, 0, n);
                MarkupJudge x = new MarkupJudge(64, 16);
                Check.due(n + " bytes of 16 bits", Check.judge(x, part), 2);
                Check.due(n + " bytes of 16 bits", x.fault() == 1, places[n] > 0);
                if (places[n] > 0) {
                    Check.due(n + " bytes of 16 bits", x.place(), places[n]);
                }
            }
        }
    }

    private static void lineEnd(String written, String want) {
        MarkupJudge x = Check.formed("<a>" + written + "</a>");
        String told = written.replace("\r", "<13>").replace("\n", "<10>");
        Check.due(told, x.characters(), want.length());
        Check.due(told, x.counted(), 7 + want.length());
        Check.due(told, Check.canonical(x), "<a>" + want + "</a>");
        int[] numbers = new int[written.length()];
        for (int i = 0; i < numbers.length; i++) {
            numbers[i] = written.charAt(i);
        }
        for (int low = 0; low < 2; low++) {
            Check.due(told + " of 16 bits", Check.judge(x, wideElement(low == 1, numbers)), 1);
            Check.due(told + " of 16 bits", x.characters(), want.length());
            Check.due(told + " of 16 bits", Check.canonical(x), "<a>" + want + "</a>");
        }
    }

    private static void lineEnds() {
        Check.says("THE TEXT is these characters, but 13 10 is one 10, and each other 13 is a 10.");
        String[][] ends = {{"", ""}, {"\n", "\n"}, {"\r", "\n"}, {"\r\n", "\n"}, {"\n\r", "\n\n"}, {"\r\r", "\n\n"}, {"\n\n", "\n\n"}, {"\r\r\n", "\n\n"},
            {"\r\n\n", "\n\n"}, {"\r\n\r", "\n\n"}, {"\n\r\n", "\n\n"}, {"\r\n\r\n", "\n\n"}, {"\rx\n", "\nx\n"}, {"x\r", "x\n"}};
        for (String[] end : ends) {
            lineEnd(end[0], end[1]);
        }
        String[] last = {"\r", "\n", "\r\n"};
        for (String s : last) {
            Check.due("at the end", Check.formed("<a/>" + s).counted(), 5);
            Check.due("at the begin", Check.formed(s + "<a/>").counted(), 5);
            Check.faulty(s + "x", 6, 1);
            Check.faulty(s, 6, 1);
        }
        // a 13 at the end of one judge() and a 10 at the begin of the next one are two
        MarkupJudge x = Check.formed("<a/>\r");
        Check.due("the next one", Check.judge(x, "\n<a/>"), 1);
        Check.due("the next one", x.counted(), 5);
        Check.due("by reference it stays", Check.canonical(Check.formed("<a>&#13;\n&#13;&#10;</a>")), "<a>&#xD;\n&#xD;\n</a>");
        Check.due("also before a 10", Check.formed("<a>&#13;\n</a>").characters(), 2);
    }

    private static void spaces() {
        Check.says("SPACE is 32, 9, 13 or 10.");
        int[] so = {32, 9, 13, 10};
        for (int c : so) {
            String s = Check.text(c);
            Check.good(s + "<a" + s + "b" + s + "=" + s + "''" + s + "/>" + s);
            Check.due("in a value", Check.formed("<a b='" + s + "'/>").attribute(0, 0, 1, 0), 32);
            // 13 stands in an entity's text alone
            String r = "&#" + c + ";";
            MarkupJudge x = Check.formed("<!DOCTYPE a [<!ENTITY % p '" + r + "<!ELEMENT" + r + "a" + r + "EMPTY" + r + ">" + r + "'>%p;<!ENTITY e '<b" + r
                + "c=\"" + r + "\"" + r + "/>'>]><a>&e;</a>");
            Check.due("in an entity's text", x.attribute(1, 0, 1, 0), 32);
        }
        int[] not = {28, 31, 133, 160, 8192, 8232, 8233, 8239, 12288};
        for (int c : not) {
            String s = Check.text(c);
            if (c > 31) {
                Check.faulty(s + "<a/>", 6, 0);
                Check.faulty("<a/>" + s, 6, 4);
                Check.faulty("<a" + s + "b=''/>", 5, 0);
                Check.due("in a value", Check.formed("<a b='" + s + "'/>").attribute(0, 0, 1, 0), c);
            } else {
                Check.faulty("<a/>" + s, 1, 4);
            }
        }
    }

    private static void faultOneComesFirst() {
        Check.says("If there is no fault 1, and the text has more than ROOM characters (the first number of the constructor), that is fault 4 at 0.");
        String full = "<a>" + "x".repeat(57) + "</a>";
        MarkupJudge x = new MarkupJudge(64, 16);
        Check.due("64 characters", Check.judge(x, full), 1);
        Check.faulty(x, Check.utf8(full + " "), "65 characters", 4, 0);
        Check.faulty(x, Check.utf8("<" + full), "65 characters and another fault", 4, 0);
        Check.faulty(x, Check.utf8("<?xml version='1.0' encoding='x'?>" + full), "and fault 2", 4, 0);
        Check.faulty(x, Check.utf8(full + " \u0000"), "65 characters and no character", 1, 65);
        Check.faulty(x, Check.joined(Check.utf8(full + " "), Check.bytes(195)), "65 characters and half a one", 1, 65);
        Check.faulty(x, Check.utf8("<<" + full.substring(2) + "\u0001"), "fault 1 before all", 1, 64);
    }
}
