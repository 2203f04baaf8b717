import java.util.ArrayList;
import java.util.List;

/** The edges of items: where each may stand, where each ends, and which of several faults comes first. */
public final class EdgeItemsTest {
    private static final String D = "<!DOCTYPE a [";
    private static final String E = "]><a/>";

    private EdgeItemsTest() {
    }

    public static void main(String[] args) {
        cutAnywhere();
        cutInEntities();
        cutInParameterEntities();
        whereItemsStand();
        headBegins();
        versions();
        encodings();
        standalone();
        comments();
        instructions();
        sectionsAndRuns();
        declarationOnce();
        entityTexts();
        valuesThroughEntities();
        withinItself();
        notDeclared();
        beganElsewhere();
        leastNumber();
        leftToRight();
        firstDeclarations();
        placesInEntities();
        Check.finish();
    }

    /** An item, and how much of it tells what it is: when less of it is there, that is fault 6; 0 for one that may end anywhere. */
    private static final class Item {
        final String text;
        final int known;

        Item(String text, int known) {
            this.text = text;
            this.known = known;
        }

        int faultWhenCut(int at) {
            return known == 0 ? 0 : at < known ? 6 : 5;
        }
    }

    private static List<Item> items(Object... row) {
        List<Item> items = new ArrayList<>();
        for (int i = 0; i < row.length; i += 2) {
            items.add(new Item((String) row[i], (Integer) row[i + 1]));
        }
        return items;
    }

    private static List<Item> beforeTheRoot() {
        return items("<?xml version='1.0' encoding='utf-8' standalone='no' ?>", 1, "\n ", 0, "<!--x-->", 1, "<?p q?>", 1, "<!DOCTYPE a [", 1);
    }

    private static List<Item> inTheDeclaration() {
        return items(" \t", 0, "<!--x-->", 4, "<?p q?>", 2, "<!ELEMENT a (#PCDATA|b)*>", 9, "<!ELEMENT b ((c|d)?,e+)>", 9, "<!ELEMENT c EMPTY >", 9,
            "<!ATTLIST a b CDATA 'x&lt;' c (d|1) #IMPLIED f NOTATION (n|m) #FIXED 'n' >", 9, "<!ENTITY e '<b/>&lt;'>", 8, "<!ENTITY % p ' '>", 8,
            "<!NOTATION n PUBLIC 'x' 'y'>", 10, "<!NOTATION m SYSTEM 'x' >", 10);
    }

    private static List<Item> inTheRoot() {
        return items("xyz", 0, "&lt;", 1, "&#32;", 1, "&#xA0;", 1, "<![CDATA[x]]>", 1, "<!--x-->", 1, "<?p q?>", 1, "<b c='&lt;'\n/>", 1, "<b \n>", 1, "]]", 0,
            "</b >", 1);
    }

    private static void cutAnywhere() {
        Check.says("Fault 6 at its end if the text ends before ']'.", "Fault 6 at its end if the text ends while an element is open.",
            "If the text ends before the root, that is fault 6 at its end.");
        List<Item> all = beforeTheRoot();
        all.addAll(inTheDeclaration());
        all.addAll(items("%p;", 1, "] >", 1, "\n", 0, "<!--x-->", 1, "<?p q?>", 1, "<a b='c' d=\"&lt;\">", 1));
        all.addAll(inTheRoot());
        all.addAll(items("&e;", 1, "</a>", 1));
        StringBuilder text = new StringBuilder();
        for (Item item : all) {
            for (int at = 0; at < item.text.length(); at++) {
                String cut = text + item.text.substring(0, at);
                int fault = at == 0 ? 0 : item.faultWhenCut(at);
                Check.faulty(cut, fault == 0 ? 6 : fault, fault == 0 ? cut.length() : text.length());
            }
            text.append(item.text);
        }
        Check.good(text.toString());
        for (Item item : items(" \n", 0, "<!--x-->", 4, "<?p q?>", 2)) {
            for (int at = 1; at < item.text.length() && item.known > 0; at++) {
                Check.faulty(text + item.text.substring(0, at), item.faultWhenCut(at), text.length());
            }
            text.append(item.text);
            Check.good(text.toString());
        }
    }

    /** As it is written in an entity's text, between these quotes. */
    private static String literal(String text) {
        return '"' + text.replace("&", "&#38;").replace("%", "&#37;").replace("\"", "&#34;") + '"';
    }

    private static void cutInEntities() {
        Check.says("an item lies in the text in which it begins, the text itself or an entity's, as if all ended with that",
            "when that ends with an element open that began in it, that is fault 14");
        List<Item> all = items("<g>", 1);
        all.addAll(inTheRoot());
        all.addAll(items("</g>", 1, "<b/>", 1));
        StringBuilder text = new StringBuilder();
        for (Item item : all) {
            for (int at = 0; at < item.text.length(); at++) {
                String cut = text + item.text.substring(0, at);
                String before = D + "<!ENTITY e " + literal(cut) + ">]><a>x";
                boolean open = text.indexOf("<g>") >= 0 && text.indexOf("</g>") < 0;
                int fault = at > 0 && item.known > 0 ? 5 : open ? 14 : 0;
                if (fault == 0) {
                    Check.good(before + "&e;" + (item.known == 0 ? item.text.substring(at) : "") + "</a>");
                } else {
                    Check.faulty(before + "&e;" + item.text.substring(at) + "</g></a>", fault, before.length());
                }
            }
            text.append(item.text);
        }
        Check.good(D + "<!ENTITY e " + literal(text.toString()) + ">]><a>&e;</a>");
    }

    private static void cutInParameterEntities() {
        Check.says("Its text is gone through as if it stood there, but without ']'.");
        StringBuilder text = new StringBuilder();
        for (Item item : inTheDeclaration()) {
            for (int at = 0; at < item.text.length(); at++) {
                String cut = text + item.text.substring(0, at);
                String before = D + "<!ENTITY % q " + literal(cut) + ">";
                int fault = at == 0 ? 0 : item.faultWhenCut(at);
                if (fault == 0) {
                    Check.good(before + "%q;" + item.text.substring(item.known == 0 ? at : 0) + E);
                } else {
                    Check.faulty(before + "%q;" + item.text.substring(at) + E, fault, before.length());
                }
            }
            text.append(item.text);
        }
        String before = D + "<!ENTITY % q ";
        Check.good(before + literal(text.toString()) + ">%q;" + E);
        String[] not = {"]", "]>", "]><a/>", " ]", "<!--x-->]"};
        for (String s : not) {
            String declared = before + literal(s) + ">";
            Check.faulty(declared + "%q;" + E, 6, declared.length());
            Check.faulty(declared + "<!ENTITY % r '&#37;q;'>%r;" + E, 6, declared.length() + 23);
        }
    }

    /** Of each: may it stand there, by how it begins? 0: it may, 5: as something else, which it is not, 6: no. */
    private static void whereItemsStand() {
        Check.says("At a place where an item begins it is first asked, by how it begins, whether such a one may stand here; if not, that is fault 6");
        String[] texts = {" ", "<!--x-->", "<?p?>", "<!DOCTYPE a>", "<![CDATA[]]>", "&lt;", "x", "%p;", "]", "]]>", ">", "<!ELEMENT z ANY>", "<!ATTLIST z>",
            "<!ENTITY z ''>", "<!NOTATION z SYSTEM ''>", "<!", "<![", "<![CDATA", "<!DOCTYP", "</a>", "</", "<", "<!-x-->", "<1/>"};
        int[] before = {0, 0, 0, 0, 6, 6, 6, 6, 6, 6, 6, 5, 5, 5, 5, 5, 5, 5, 5, 6, 6, 5, 5, 5};
        int[] declared = {0, 0, 0, 6, 6, 6, 6, 6, 6, 6, 6, 5, 5, 5, 5, 5, 5, 5, 5, 6, 6, 5, 5, 5};
        int[] within = {0, 0, 0, 6, 6, 6, 6, 0, 5, 5, 6, 0, 0, 0, 0, 6, 6, 6, 6, 6, 6, 6, 6, 6};
        int[] inRoot = {0, 0, 0, 6, 0, 0, 0, 0, 0, 5, 0, 5, 5, 5, 5, 5, 5, 5, 5, 0, 5, 5, 5, 5};
        int[] behind = {0, 0, 0, 6, 6, 6, 6, 6, 6, 6, 6, 6, 6, 6, 6, 6, 6, 6, 6, 6, 6, 6, 6, 6};
        String p = D + "<!ENTITY % p ''>";
        for (int i = 0; i < texts.length; i++) {
            String s = texts[i];
            stands("", s, "<a/>", before[i]);
            stands(" ", s, "<a/>", before[i]);
            stands("<!DOCTYPE a>", s, "<a/>", declared[i]);
            stands(p + "]>\n", s, "<a/>", declared[i]);
            stands(p, s, "]><a/>", within[i]);
            stands("<a>", s, s.equals("</a>") ? "" : "</a>", inRoot[i]);
            stands("<a><b/>", s, s.equals("</a>") ? "" : "</a>", inRoot[i]);
            stands("<a/>", s, "", behind[i]);
            stands("<a></a> ", s, "", behind[i]);
        }
        stands("<a/>", "<b/>", "", 6);
        stands("<a/>", "<a", "", 6);
        stands("<a>", "<b/>", "</a>", 0);
        stands(D, "<b/>", E, 6);
        stands(D, "<b", E, 6);
    }

    private static void stands(String before, String item, String rest, int fault) {
        if (fault == 0) {
            Check.good(before + item + rest);
        } else {
            Check.faulty(before + item + rest, fault, before.length());
        }
    }

    private static void headBegins() {
        Check.says("HEAD, if the text begins with '<?xml' and a SPACE");
        String rest = "version='1.0'?><a/>";
        Check.good("<?xml " + rest);
        Check.good("<?xml\t" + rest);
        Check.good("<?xml\n" + rest);
        Check.good("<?xml\r" + rest);
        Check.good("<?xml\r\n" + rest);
        // an instruction, of that name or of another one
        Check.faulty("<?xml", 5, 0);
        Check.faulty("<?xml?>", 5, 0);
        Check.faulty("<?xml?><a/>", 5, 0);
        Check.faulty("<?xml\u00a0" + rest, 5, 0);
        Check.good("<?xmlx " + rest);
        Check.good("<?xm " + rest);
        Check.faulty("<?XML " + rest, 5, 0);
        // not at the begin
        Check.faulty(" <?xml " + rest, 5, 1);
        Check.faulty("<!--x--><?xml " + rest, 5, 8);
        Check.faulty("<?xml version='1.0'?><?xml " + rest, 5, 21);
        Check.faulty("<a><?xml version='1.0'?></a>", 5, 3);
        Check.faulty("<a/><?xml version='1.0'?>", 5, 4);
        Check.faulty(D + "<?xml version='1.0'?>" + E, 5, 13);
        // it is no instruction: no node, no product
        MarkupJudge x = Check.formed("<?xml version='1.0'?><a/>");
        Check.due("not written", Check.canonical(x), "<a></a>");
    }

    private static void versions() {
        Check.says("'version' E q '1.' digits q", "a digit at least");
        String[] good = {"1.0", "1.1", "1.9", "1.00", "1.0123456789", "1." + "9".repeat(500)};
        String[] bad = {"", "1", "1.", ".0", "0.0", "2.0", "11.0", "10", "1,0", "1.0.", "1.0 ", " 1.0", "1. 0", "1.a", "1.0a", "1./", "1.:", "1.\u0660", "v1.0"};
        for (String s : good) {
            Check.good("<?xml version='" + s + "'?><a/>");
            Check.good("<?xml version=\"" + s + "\" standalone='no'?><a/>");
        }
        for (String s : bad) {
            Check.faulty("<?xml version='" + s + "'?><a/>", 5, 0);
            Check.faulty("<?xml version=\"" + s + "\"?><a/>", 5, 0);
        }
        Check.says("q a \" or ', the same on both sides");
        String[] parts = {" version=~1.0~", " version='1.0' encoding=~utf-8~", " version='1.0' standalone=~yes~", " version='1.0' encoding='UTF-8' standalone=~no~"};
        for (String s : parts) {
            int at = s.indexOf('~');
            String middle = s.substring(at + 1, s.length() - 1);
            String[] quotes = {"'", "\"", "", "`"};
            for (String left : quotes) {
                for (String right : quotes) {
                    boolean same = left.equals(right) && (left.equals("'") || left.equals("\""));
                    stands("", "<?xml" + s.substring(0, at) + left + middle + right + "?>", "<a/>", same ? 0 : 5);
                }
            }
        }
    }

    private static void encodings() {
        Check.says("'encoding' E q letter (letter | digit | . | _ | -)* q", "letters and digits below 128");
        for (int c = 32; c < 256; c++) {
            boolean letter = c >= 'a' && c <= 'z' || c >= 'A' && c <= 'Z';
            boolean other = c >= '0' && c <= '9' || c == '.' || c == '_' || c == '-';
            String s = Check.text(c);
            Check.faulty("<?xml version='1.0' encoding='" + s + "'?><a/>", letter ? 2 : 5, 0);
            Check.faulty("<?xml version='1.0' encoding=\"" + s + "x\"?><a/>", letter ? 2 : 5, 0);
            Check.faulty("<?xml version='1.0' encoding='x" + s + "'?><a/>", letter || other ? 2 : 5, 0);
        }
        Check.faulty("<?xml version='1.0' encoding=''?><a/>", 5, 0);
        Check.says("Fault 2: the encoding, in letters of either size, is not UTF-8 for 8 bits, UTF-16 for 16 bits.");
        String[] good = {"UTF-8", "utf-8", "Utf-8", "uTf-8", "utF-8", "UTf-8", "uTF-8", "UtF-8"};
        String[] bad = {"UTF-16", "utf-16", "UTF-7", "UTF-9", "UTF-88", "UTF-", "UTF8", "UTF_8", "UTF.8", "TF-8", "xUTF-8", "UTF-8x", "VTF-8", "TTF-8", "USF-8", "UUF-8", "UTE-8", "UTG-8", "UTF.8", "UTF-7", "U", "ISO-8859-1"};
        byte[] mark = Check.bytes(239, 187, 191);
        for (String s : good) {
            encoded(mark, s, 0);
        }
        for (String s : bad) {
            encoded(mark, s, 2);
        }
        for (int low = 0; low < 2; low++) {
            wideEncoded(low == 1, "UTF-16", 0);
            wideEncoded(low == 1, "utf-16", 0);
            wideEncoded(low == 1, "uTf-16", 0);
            wideEncoded(low == 1, "UTF-8", 2);
            wideEncoded(low == 1, "UTF-1", 2);
            wideEncoded(low == 1, "UTF-15", 2);
            wideEncoded(low == 1, "UTF-17", 2);
            wideEncoded(low == 1, "UTF-06", 2);
            wideEncoded(low == 1, "VTF-16", 2);
            wideEncoded(low == 1, "UTF-160", 2);
            wideEncoded(low == 1, "UTF-16LE", 2);
            wideEncoded(low == 1, "UTF-16BE", 2);
        }
        // a head without one says nothing wrong
        Check.due("16 bits", Check.judge(new MarkupJudge(0, 0), wideRow(true, "<?xml version='1.0'?><a/>")), 1);
    }

    private static void encoded(byte[] mark, String encoding, int fault) {
        byte[] row = Check.utf8("<?xml version='1.0' encoding='" + encoding + "'?><a/>");
        byte[][] both = {row, Check.joined(mark, row)};
        for (byte[] bytes : both) {
            MarkupJudge x = new MarkupJudge(64, 16);
            Check.due(encoding, Check.judge(x, bytes), fault == 0 ? 1 : 2);
            Check.due(encoding, x.fault(), fault);
            Check.due(encoding, x.place(), fault == 0 ? -1 : 0);
        }
    }

    private static byte[] wideRow(boolean lowFirst, String text) {
        int[] numbers = new int[text.length() + 1];
        numbers[0] = 65279;
        for (int i = 0; i < text.length(); i++) {
            numbers[i + 1] = text.charAt(i);
        }
        return Check.wide(lowFirst, numbers);
    }

    private static void wideEncoded(boolean lowFirst, String encoding, int fault) {
        MarkupJudge x = new MarkupJudge(64, 16);
        Check.judge(x, wideRow(lowFirst, "<?xml version='1.0' encoding='" + encoding + "'?><a/>"));
        Check.due("16 bits " + encoding, x.fault(), fault);
        Check.due("16 bits " + encoding, x.place(), fault == 0 ? -1 : 0);
    }

    private static void standalone() {
        Check.says("[S 'standalone' E q ('yes' | 'no') q]");
        String[] good = {"yes", "no"};
        String[] bad = {"", "y", "ye", "yess", "Yes", "YES", "n", "noo", "No", " yes", "yes ", "yesno", "true"};
        for (String s : good) {
            Check.good("<?xml version='1.0' standalone='" + s + "'?><a/>");
        }
        for (String s : bad) {
            Check.faulty("<?xml version='1.0' standalone='" + s + "'?><a/>", 5, 0);
        }
    }

    private static void comments() {
        Check.says("COMMENT, beginning with '<!--': that, characters with no '--' among them and no '-' at their end, '-->'.");
        for (int n = 0; n < 5; n++) {
            stands("", "<!--" + "-".repeat(n) + "-->", "<a/>", n == 0 ? 0 : 5);
            stands("", "<!--x" + "-".repeat(n) + "-->", "<a/>", n == 0 ? 0 : 5);
            stands("", "<!--" + "-".repeat(n) + "x-->", "<a/>", n < 2 ? 0 : 5);
            stands("", "<!--x" + "-".repeat(n) + "x-->", "<a/>", n < 2 ? 0 : 5);
            stands("", "<!--x" + "-".repeat(n) + ">" + (n == 2 ? "" : "x-->"), "<a/>", n < 3 ? 0 : 5);
            stands("<a>", "<!--" + "- ".repeat(n) + "-->", "</a>", 0);
        }
        Check.faulty("<!-->", 5, 0);
        Check.faulty("<!--->", 5, 0);
        Check.good("<!----><a/>");
    }

    private static void instructions() {
        Check.says("INSTRUCTION, beginning with '<?': that, a name that is not xml in letters of either size, [S characters without '?>'] '?>'.");
        String[] none = {"xml", "Xml", "xMl", "xmL", "XMl", "XmL", "xML", "XML"};
        for (String s : none) {
            stands(" ", "<?" + s + " x?>", "<a/>", 5);
            stands("<a>", "<?" + s + "?>", "</a>", 5);
        }
        String[] good = {"x", "xm", "ml", "xmll", "xxml", "xml_", "xml:", "xml1", "\u017fxml", "yml", "wml", "xnl", "xll", "xmk", "xmm", "lmx", "XMK"};
        for (String s : good) {
            stands(" ", "<?" + s + " x?>", "<a/>", 0);
            stands("<a>", "<?" + s + "?>", "</a>", 0);
        }
        for (int n = 0; n < 4; n++) {
            stands("", "<?p" + "?".repeat(n) + "?>", "<a/>", n == 0 ? 0 : 5);
            stands("", "<?p " + "?".repeat(n) + "?>", "<a/>", 0);
            stands("", "<?p " + ">".repeat(n) + "?>", "<a/>", 0);
            stands("", "<?p" + ">".repeat(n) + "?>", "<a/>", n == 0 ? 0 : 5);
        }
        Check.due("up to the first end", Check.canonical(Check.formed("<a><?p ? > x?>y?></a>")), "<a><?p ? > x?>y?&gt;</a>");
        Check.due("nothing but S", Check.canonical(Check.formed("<a><?p \t\n?></a>")), "<a><?p?></a>");
        Check.due("one behind S", Check.canonical(Check.formed("<a><?p \t\nx \n?></a>")), "<a><?p x \n?></a>");
    }

    private static void sectionsAndRuns() {
        Check.says("SECTION, beginning with '<![CDATA[': that, characters without ']]>', ']]>'.");
        for (int n = 0; n < 4; n++) {
            MarkupJudge x = Check.formed("<a><![CDATA[" + "]".repeat(n) + "]]></a>");
            Check.due("brackets", x.characters(), n);
            x = Check.formed("<a><![CDATA[" + ">".repeat(n) + "]]></a>");
            Check.due("brackets", x.characters(), n);
            Check.faulty("<a><![CDATA[" + "]".repeat(n) + "</a>", 5, 3);
            Check.faulty("<a>x<![CDATA[" + "]>".repeat(n), 5, 4);
        }
        Check.says("RUN: characters up to the next < or &, or to the end of the text it is in, with no ']]>' among them.");
        for (int n = 0; n < 5; n++) {
            stands("<a>", "]".repeat(n) + ">", "</a>", n < 2 ? 0 : 5);
            stands("<a>", "x" + "]".repeat(n) + ">x", "</a>", n < 2 ? 0 : 5);
            stands("<a>", "]".repeat(n) + " >", "</a>", 0);
            stands("<a>", "]".repeat(n), "</a>", 0);
            stands("<a>", "]".repeat(n) + "&gt;", "</a>", 0);
            stands("<a>", "]".repeat(n) + "<b/>>", "</a>", 0);
            stands("<a>", "]".repeat(n) + "<!---->>", "</a>", 0);
            String d = D + "<!ENTITY e '" + "]".repeat(n) + "'><!ENTITY f ']>'>]>";
            stands(d + "<a>", "&e;>", "</a>", 0);
            stands(d + "<a>", "]]&e;>", "</a>", 0);
            stands(d + "<a>", "]".repeat(n) + "&f;", "</a>", 0);
            stands(D + "<!ENTITY e '" + "]".repeat(n) + "&#62;'>]><a>", "&e;", "</a>", n < 2 ? 0 : 5);
        }
        Check.faulty("<a>x&lt;y]]></a>", 5, 8);
        Check.faulty("<a>]]>&#0;</a>", 5, 3);
        Check.faulty("<a>]]&#0;></a>", 12, 5);
    }

    private static void declarationOnce() {
        Check.says("before the root, once, the DECLARATION, beginning with '<!DOCTYPE'");
        Check.good("<!DOCTYPE a><a/>");
        Check.faulty("<!DOCTYPE a><!DOCTYPE a><a/>", 6, 12);
        Check.faulty("<!DOCTYPE a []> <!DOCTYPE", 6, 16);
        Check.faulty("<a><!DOCTYPE a></a>", 6, 3);
        Check.faulty("<a/><!DOCTYPE a>", 6, 4);
        Check.faulty(D + "<!DOCTYPE a>" + E, 6, 13);
        Check.faulty("<!DOCTYPE a]><a/>", 5, 0);
        Check.faulty("<!DOCTYPE a [[]><a/>", 6, 13);
        Check.faulty("<!DOCTYPE a []]><a/>", 5, 13);
        Check.faulty("<!DOCTYPE a []>]><a/>", 6, 15);
    }

    private static void entityTexts() {
        Check.says("Entity text is a literal whose & all belong to references, and whose % to a '%' name ';'.", "Fault 13: such a %; 12: a character reference to no character.");
        String[] kinds = {"<!ENTITY e ", "<!ENTITY % e "};
        for (String kind : kinds) {
            String[] good = {"''", "'&#37;'", "'&#38;'", "'&x;'", "'&#x25;x;'", "'&lt;&#60;<'", "\"'\"", "'\"'"};
            for (String s : good) {
                stands(D, kind + s + ">", E, 0);
            }
            String[] bad = {"'&'", "'&&'", "'%'", "'%%'", "'&x'", "'%x'", "'&x; &'", "'%x; %'", "'&#0;%'", "'%x;&'", "'% x;'", "'& x;'", "'%;'", "'%&#37;;'"};
            for (String s : bad) {
                stands(D, kind + s + ">", E, 5);
            }
            stands(D, kind + "'%x;'>", E, 13);
            stands(D, kind + "'%x;&#0;'>", E, 13);
            stands(D, kind + "'&#0;%x;'>", E, 12);
            stands(D, kind + "'&#32;&x;%x;&#0;'>", E, 13);
            stands(D + "<!ENTITY % x ''>", kind + "'%x;'>", E, 13);
        }
        Check.says("Its TEXT is what stands within, character references being what they mean.");
        String text = D + "<!ENTITY e '&#38;#38;&#x26;lt;&lt;&f;'><!ENTITY f '&#38;#x3e;'>]><a b='&e;'>&e;</a>";
        MarkupJudge x = Check.formed(text);
        Check.due("in a value", Check.part(x, 0, 0, 1), "&<<>");
        Check.due("in an element", x.characters(), 4);
        Check.due("counted", x.counted(), text.length() + 2 * "&#38;&lt;&lt;&f;&#x3e;".length());
    }

    private static void valuesThroughEntities() {
        Check.says("the text of an entity is gone through in the same way: in it a < is fault 11, and a & that begins no reference is fault 5");
        String[] texts = {"&#38;", "&#38; ", "x&#38; y", "&#38;;", "&#38;&#38;", "&#38;1;", "&#38;-;", "&#38;x", "&#38;lt", "&#38;lt ;", "&#38;#;", "&#38;#x;", "&#38;#xg;", "&#38;#3", "&#38;#X20;",
            "&#60;", "<", "x<y", "<b/>", "<!---->", "<![CDATA[]]>", "&#38;#0;", "&#38;#x110000;", "&#38;x;"};
        int[] inValue = {5, 5, 5, 5, 5, 5, 5, 5, 5, 5, 5, 5, 5, 5, 5, 11, 11, 11, 11, 11, 11, 12, 12, 9};
        int[] inRoot = {5, 5, 5, 5, 5, 5, 5, 5, 5, 5, 5, 5, 5, 5, 5, 5, 5, 5, 0, 0, 0, 12, 12, 9};
        for (int i = 0; i < texts.length; i++) {
            String d = D + "<!ENTITY e '" + texts[i] + "'><!ENTITY f '[&e;]'>";
            String[] names = {"e", "f"};
            for (String name : names) {
                String r = "&" + name + ";";
                stands(d + "]>", "<a b='" + r + "'/>", "", inValue[i]);
                stands(d + "]><a>", "<b c='1' d='2" + r + "'/>", "</a>", inValue[i]);
                stands(d, "<!ATTLIST a b CDATA '" + r + "'>", E, inValue[i]);
                stands(d, "<!ATTLIST a b ID #FIXED \"" + r + "\">", E, inValue[i]);
                stands(d + "]><a>", r, "</a>", inRoot[i]);
                stands(d, "", E, 0);
            }
        }
        // what is a reference there, quotes and > are not in the way
        MarkupJudge x = Check.formed(D + "<!ENTITY e '&#38;lt;&#38;#60;&#38;#38;\">&#39;]]>%'>".replace("%", "&#37;") + "]><a b='&e;' c=\"&e;\"/>");
        Check.due("in a value", Check.part(x, 0, 0, 1), "<<&\">']]>%");
        Check.due("in a value", Check.part(x, 0, 1, 1), "<<&\">']]>%");
    }

    private static void withinItself() {
        Check.says("10: it stands, by whatever ways, within its own text");
        int[] ways = {1, 2, 3, 50};
        for (int n : ways) {
            StringBuilder general = new StringBuilder(D);
            StringBuilder parameter = new StringBuilder(D);
            for (int i = 0; i < n; i++) {
                general.append("<!ENTITY e").append(i).append(" 'x&e").append((i + 1) % n).append(";'>");
                parameter.append("<!ENTITY % e").append(i).append(" ' &#37;e").append((i + 1) % n).append(";'>");
            }
            Check.faulty(general + "]><a>&e0;</a>", 10, general.length() + 5);
            Check.faulty(general + "]><a b='&e0;'/>", 10, general.length() + 2);
            Check.faulty(general + "<!ATTLIST a b CDATA '&e0;'>" + E, 10, general.length());
            Check.faulty(parameter + "%e0;" + E, 10, parameter.length());
            Check.good(general + E);
            Check.good(parameter + E);
        }
        // by a value within an element within its text
        String v = D + "<!ENTITY e '<b c=\"&f;\"/>'><!ENTITY f 'x&e;'>]><a>";
        Check.faulty(v + "&e;</a>", 10, v.length());
        // once is no circle, nor is one behind the other
        Check.good(D + "<!ENTITY e '&f;&f;'><!ENTITY f 'x'>]><a b='&e;&e;&f;'>&e;&e;&f;</a>");
        Check.good(D + "<!ENTITY % e ' &#37;f;&#37;f;'><!ENTITY % f ' '>%e;%e;%f;" + E);
        // a parameter entity and another one of the same name are two
        Check.good(D + "<!ENTITY e 'x'><!ENTITY % e '<!ATTLIST a b CDATA \"&#38;e;\">'>%e;]><a>&e;</a>");
    }

    private static void notDeclared() {
        Check.says("fault 9 if it is not declared and the text has no declaration, or its head says yes to standalone, or no parameter reference was gone through before it; "
            + "without a fault then nothing stands there");
        String[] heads = {"", "<?xml version='1.0'?>", "<?xml version='1.0' standalone='no'?>", "<?xml version='1.0' standalone='yes'?>"};
        String[] declarations = {"", "<!DOCTYPE a>", "<!DOCTYPE a []>", D + "<!ENTITY % p ''>]>", D + "<!ENTITY % q '&#37;p;'><!ENTITY % p ''>]>",
            D + "<!ENTITY % p ''>%p;]>", D + "<!ENTITY % q '&#37;p;'><!ENTITY % p ''>%q;]>"};
        for (int h = 0; h < heads.length; h++) {
            for (int d = 0; d < declarations.length; d++) {
                String before = heads[h] + declarations[d];
                boolean good = h < 3 && d >= 5;
                stands(before + "<a>", "&x;", "</a>", good ? 0 : 9);
                stands(before, "<a b='&x;'/>", "", good ? 0 : 9);
                stands(before + "<a>", "&lt;", "</a>", 0);
            }
        }
        String p = D + "<!ENTITY % p ''>";
        Check.faulty(p + "<!ATTLIST a b CDATA '&x;'>%p;" + E, 9, p.length());
        MarkupJudge x = Check.formed(p + "%p;<!ATTLIST a b CDATA '[&x;]'>]><a c='[&x;]'>&x;</a>");
        Check.due("nothing stands there", Check.part(x, 0, 0, 1) + Check.part(x, 0, 1, 1), "[][]");
        Check.due("no character", x.characters(), 0);
        Check.due("three references", x.violations(22), 3);
        // words that mean something elsewhere are names like any other
        String[] others = {"xml", "xmlns", "CDATA", "ID", "IDREF", "IDREFS", "ENTITY", "ENTITIES", "NMTOKEN", "NMTOKENS", "NOTATION", "a", "EMPTY", "LT", "g"};
        for (String s : others) {
            Check.faulty("<a>&" + s + ";</a>", 9, 3);
            Check.faulty("<a b='&" + s + ";'/>", 9, 0);
            Check.faulty(D + "%" + s + ";" + E, 9, 13);
            Check.due(s, Check.formed(D + "<!ENTITY " + s + " 'xyz'>]><a>&" + s + ";</a>").characters(), 3);
            Check.good(D + "<!ENTITY % " + s + " ' '>%" + s + ";" + E);
        }
        Check.says("Fault 9: no such parameter entity was declared before");
        Check.faulty(D + "%p;<!ENTITY % p ''>" + E, 9, 13);
        Check.faulty(p + "%p; %q;" + E, 9, p.length() + 4);
        Check.faulty(D + "<!ENTITY p ''>%p;" + E, 9, 27);
        Check.faulty(D + "%lt;" + E, 9, 13);
        Check.good(D + "<!ENTITY % lt ''>%lt;" + E);
    }

    private static void beganElsewhere() {
        Check.says("Fault 7: its name is another one than that of the element that is open; 14: that one began in another entity's text, or in the text itself.");
        String e = D + "<!ENTITY e '~'><!ENTITY f '</b>'><!ENTITY g '<b>'>]><a>";
        String[] good = {"", "<b/>", "<b></b>", "<b><b></b></b>", "x<b>&h;</b>"};
        for (String s : good) {
            Check.good(e.replace("~", s).replace("]>", "<!ENTITY h '<b></b>'>]>") + "&e;</a>");
        }
        String[] torn = {"<b>", "</a>", "<b><b></b>", "<b></b></a>", "<b>&f;", "&f;", "&g;", "&g;&f;", "<b>&f;</b>", "<b/></a><a>"};
        for (String s : torn) {
            String before = e.replace("~", s);
            int fault = s.equals("&f;") ? 7 : 14;
            Check.faulty(before + "&e;</b></a>", fault, before.length());
        }
        String[] others = {"<aa></a>", "<a></aa>", "<a></b>", "<a:a></a>", "<a></a:a>", "<\u00e9></e>"};
        for (String s : others) {
            Check.faulty(s, 7, s.indexOf("</"));
        }
        String before = e.replace("~", "");
        Check.faulty(before + "<b>&f;</a>", 14, before.length() + 3);
        Check.faulty(before + "&g;</b></a>", 14, before.length());
        Check.faulty(before + "<b>x</a>", 7, before.length() + 4);
        Check.good(before + "&e;<b></b></a>");
    }

    private static void leastNumber() {
        Check.says("then come its other faults, from its left to its right, and of those that are at one point the least number");
        // 4 before 10
        String text = D + " ".repeat(20) + "<!ENTITY e '12345&e;'>]><a>&e;</a>";
        int n = text.length();
        int[] fault = {4, 4, 4, 10};
        int[] room = {n + 7, n + 8, n + 15, n + 16};
        for (int i = 0; i < 4; i++) {
            MarkupJudge x = new MarkupJudge(room[i], 0);
            Check.faulty(x, Check.utf8(text), "room " + (room[i] - n), fault[i], n - 7);
        }
        // 7 before 14
        String d = D + "<!ENTITY e '</b>'><!ENTITY f '</a>'>]><a>";
        Check.faulty(d + "&e;</a>", 7, d.length());
        Check.faulty(d + "&f;</a>", 14, d.length());
    }

    private static void leftToRight() {
        Check.says("then it must be written as told here, otherwise that is fault 5; then come its other faults, from its left to its right");
        String[] parts = {"b='&x;'", "c='&#0;'", "d='&e;'", "f='&g;'", "h='' h=''"};
        int[] faults = {9, 12, 11, 10, 8};
        String d = D + "<!ENTITY e '<'><!ENTITY g '&g;'>]>";
        for (int i = 0; i < parts.length; i++) {
            for (int k = 0; k < parts.length; k++) {
                if (i != k) {
                    Check.faulty(d + "<a " + parts[i] + " " + parts[k] + "/>", faults[i], d.length());
                    Check.faulty(d + "<a " + parts[i] + " " + parts[k] + "x/>", 5, d.length());
                }
            }
        }
        String[] values = {"&x;", "&#0;", "&e;", "&g;"};
        for (int i = 0; i < values.length; i++) {
            for (int k = 0; k < values.length; k++) {
                Check.faulty(d + "<a b='" + values[i] + values[k] + "'/>", faults[i], d.length());
                String before = D + "<!ENTITY e '<'><!ENTITY g '&g;'>";
                Check.faulty(before + "<!ATTLIST a b CDATA '" + values[i] + "' c CDATA '" + values[k] + "'>" + E, faults[i], before.length());
                Check.faulty(before + "<!ATTLIST a b CDATA '" + values[i] + "' c CDATA '" + values[k] + "' x>" + E, 5, before.length());
            }
        }
        Check.says("Fault 8: an attribute's name for the second time (before its value is looked at)");
        Check.faulty("<a b='' b='&x;'/>", 8, 0);
        Check.faulty("<a b='&x;' b=''/>", 9, 0);
        Check.faulty("<a b='' c='&x;' b=''/>", 9, 0);
        Check.faulty("<a b='' b=''", 5, 0);
    }

    private static void firstDeclarations() {
        Check.says("The first declaration of an entity (parameter entities for themselves), of an attribute of an element's name, of an element, counts; later ones change nothing "
            + "(but a default value of theirs is gone through all the same: its faults, ROOM, 22 of VALID).");
        MarkupJudge x = Check.formed(D + "<!ENTITY e 'x'><!ENTITY % e ' '><!ENTITY e 'yy'><!ENTITY % e 'z'>%e;]><a>&e;</a>");
        Check.due("the first text", Check.canonical(x), "<a>x</a>");
        String text = D + "<!ENTITY % p ' '>%p;<!ENTITY e '123'><!ATTLIST a b CDATA '1' b CDATA '&e;&x;'><!ATTLIST a b CDATA '&x;&e;'>" + E;
        x = Check.formed(text);
        Check.due("the first value", Check.part(x, 0, 0, 1), "1");
        Check.due("one attribute", x.attributes(0), 1);
        Check.due("22 of VALID", x.violations(22), 2);
        Check.due("ROOM", x.counted(), text.length() + 1 + 3 + 3);
        String d = D + "<!ATTLIST a b CDATA '1'>";
        Check.faulty(d + "<!ATTLIST a b CDATA '&x;'>" + E, 9, d.length());
        Check.faulty(d + "<!ATTLIST a b CDATA '&#0;'>" + E, 12, d.length());
        Check.says("lt, gt, amp, apos and quot mean < > & ' \" always, whatever is declared.");
        String[] names = {"lt", "gt", "amp", "apos", "quot"};
        String meant = "<>&'\"";
        for (int i = 0; i < 5; i++) {
            String r = "&" + names[i] + ";";
            String[] before = {"", D + "<!ENTITY " + names[i] + " 'xyz'>]>", D + "<!ENTITY " + names[i] + " '" + r + "'>]>", D + "<!ENTITY e '" + r + "'>]>"};
            for (String s : before) {
                String e = s.contains("ENTITY e") ? "&e;" : r;
                x = Check.formed(s + "<a b='" + e + "'>" + e + "</a>");
                Check.due(r, x.attribute(0, 0, 1, 0), meant.charAt(i));
                Check.due(r, x.attribute(0, 0, 1, 1), -1);
                Check.due(r, x.characters(), 1);
            }
            Check.faulty("<a>&" + names[i].toUpperCase() + ";</a>", 9, 3);
            Check.faulty("<a>&" + names[i] + "x;</a>", 9, 3);
        }
    }

    private static void placesInEntities() {
        Check.says("The place of a fault is where the item begins; of an item within the text of an entity, where the reference begins that stands in the text itself.");
        String d = D + "<!ENTITY e 'x<b>yyy&f;</b>'><!ENTITY f '<c/>&g;'><!ENTITY g '<!--x--><d e=\"~\"/>'><!ENTITY i '<'>]><a>zz";
        String[] values = {"&#38;h;", "&#38;#0;", "&#38;i;", "&#38;g;", "&#38;", "&#60;"};
        int[] faults = {9, 12, 11, 10, 5, 5};
        for (int i = 0; i < values.length; i++) {
            String before = d.replace("~", values[i]);
            Check.faulty(before + "&e;</a>", faults[i], before.length());
            Check.faulty(before + "<!---->&f;</a>", faults[i], before.length() + 7);
            Check.faulty(before + "&i2;&f;</a>", 9, before.length());
        }
        String p = D + " <!ENTITY % p '&#37;q;'><!ENTITY % q ' <!--x--> ~'>";
        String[] items = {"x", "]", "<!ELEMENT b>", "&#37;r;", "&#37;p;", "<!ENTITY e SYSTEM \"\">", "<!ATTLIST a b CDATA \"&#38;#0;\">"};
        int[] wrong = {6, 6, 5, 9, 10, 3, 12};
        for (int i = 0; i < items.length; i++) {
            String before = p.replace("~", items[i]);
            Check.faulty(before + "%p;" + E, wrong[i], before.length());
            Check.faulty(before + "\n%q;" + E, wrong[i], before.length() + 1);
        }
    }
}
