/** The edges of words: names, tokens, literals, references, values, and spaces between them. */
public final class EdgeWordsTest {
    private static final String D = "<!DOCTYPE a [";
    private static final String E = "]><a/>";
    static final int[] STARTS = {':', 'A', 'B', 'Y', 'Z', '_', 'a', 'b', 'y', 'z', 192, 193, 213, 214, 216, 217, 245, 246, 248, 249, 766, 767, 880, 881,
        892, 893, 895, 896, 8190, 8191, 8204, 8205, 8304, 8305, 8590, 8591, 11264, 11265, 12270, 12271, 12289, 12290, 55294, 55295, 63744, 63745, 64974,
        64975, 65008, 65009, 65532, 65533, 65536, 65537, 983038, 983039};
    static final int[] OTHERS = {'-', '.', '0', '1', '8', '9', 183, 768, 769, 878, 879, 8255, 8256};
    static final int[] NEITHER = {'@', '[', '^', '`', '{', ',', 127, 128, 160, 182, 184, 191, 215, 247, 894, 8192, 8203, 8206, 8254, 8257, 8303, 8592,
        11263, 12272, 12288, 57344, 63743, 64976, 65007, 983040, 1114111};

    /** Wherever a name stands, as ~, with the place of the item. */
    private static final String[] NAMED = {"<~/>", "<~></~>", "<a ~=''/>", "<?~?><a/>", "<?~ x?><a/>", "<!DOCTYPE ~><a/>", "<!DOCTYPE ~ []><a/>"};
    private static final String[] NAMED_WITHIN = {"<!ELEMENT ~ ANY>", "<!ELEMENT b (~)>", "<!ELEMENT b (~*)?>", "<!ELEMENT b (c|~)>", "<!ELEMENT b (c,(~|d)+)>",
        "<!ELEMENT b (#PCDATA|~)*>", "<!ELEMENT b ( #PCDATA | c | ~ )*>", "<!ATTLIST ~>", "<!ATTLIST ~ c ID #IMPLIED>", "<!ATTLIST b ~ CDATA ''>",
        "<!ATTLIST b c NOTATION (~) #IMPLIED>", "<!ATTLIST b c NOTATION (d|~) #IMPLIED>", "<!ENTITY ~ ''>", "<!ENTITY % ~ ''>", "<!ENTITY e '&~;'>",
        "<!NOTATION ~ SYSTEM ''>", "<!NOTATION ~ PUBLIC ''>", "<?~?>"};

    private EdgeWordsTest() {
    }

    public static void main(String[] args) {
        namesOfElements();
        namesEverywhere();
        namesThatRefer();
        tokens();
        literals();
        publicLiterals();
        digits();
        values();
        spacesThatMustStand();
        longWords();
        Check.finish();
    }

    private static void namesOfElements() {
        Check.says("A NAME is a name start and name characters: NAME STARTS are : A-Z _ a-z, 192 .. 214", "NAME CHARACTERS are these and - . 0-9, 183, 768 .. 879, 8255, 8256.");
        for (int c : STARTS) {
            String s = Check.text(c);
            Check.due("as a name " + c, Check.formed("<" + s + "/>").name(0, 0), c);
            Check.due("in a name " + c, Check.formed("<a" + s + "/>").name(0, 1), c);
        }
        for (int c : OTHERS) {
            String s = Check.text(c);
            Check.faulty("<" + s + "/>", 5, 0);
            Check.faulty("<" + s + "a/>", 5, 0);
            Check.due("in a name " + c, Check.formed("<a" + s + "/>").name(0, 1), c);
        }
        for (int c : NEITHER) {
            String s = Check.text(c);
            Check.faulty("<" + s + "/>", 5, 0);
            Check.faulty("<" + s + "a/>", 5, 0);
            Check.faulty("<a" + s + "/>", 5, 0);
            Check.faulty("<a" + s + "a/>", 5, 0);
        }
        Check.faulty("</>", 6, 0);
        Check.faulty("<>", 5, 0);
    }

    private static void namesEverywhere() {
        Check.says("A NAME is a name start and name characters");
        String[] good = {"_", ":", "z", "\u00c0", "\ud800\udc00", "z-", "z.", "z0", "z\u00b7", "z\u203f", "z:z"};
        String[] bad = {"", "-", ".", "0", "9z", "\u00b7", "\u0300", "\u2040", "\u00d7", "z\u00d7", "z\u037e", "z\u3000", "z z", "\udb80\udc00"};
        for (String name : good) {
            for (String s : NAMED) {
                Check.good(s.replace("~", name));
            }
            for (String s : NAMED_WITHIN) {
                Check.good(D + s.replace("~", name) + E);
            }
            Check.faulty(D + "<!ENTITY e SYSTEM '' NDATA " + name + ">" + E, 3, 13);
            Check.faulty(D + "<!ENTITY e '%" + name + ";'>" + E, 13, 13);
        }
        for (String name : bad) {
            // an instruction's name may have more behind it, and what begins with '</' is no tag
            for (String s : NAMED) {
                if (!name.equals("z z") || !s.startsWith("<?")) {
                    String text = s.replace("~", name);
                    Check.faulty(text, text.startsWith("</") ? 6 : 5, 0);
                }
            }
            for (String s : NAMED_WITHIN) {
                if (!name.equals("z z") || !s.startsWith("<?")) {
                    Check.faulty(D + s.replace("~", name) + E, 5, 13);
                }
            }
            Check.faulty(D + "<!ENTITY e SYSTEM '' NDATA " + name + ">" + E, 5, 13);
            Check.faulty(D + "<!ENTITY e '%" + name + ";'>" + E, 5, 13);
        }
    }

    private static void namesThatRefer() {
        Check.says("REFERENCE: a character reference, or '&' name ';'.");
        for (int c : STARTS) {
            String s = Check.text(c);
            String d = D + "<!ENTITY " + s + " 'xy'>";
            Check.due("&" + s + ";", Check.formed(d + "]><a b='&" + s + ";'>&" + s + ";</a>").characters(), 2);
            Check.good(D + "<!ENTITY % " + s + " ''>%" + s + ";" + E);
        }
        for (int c : OTHERS) {
            String s = Check.text(c);
            Check.due("&a" + s + ";", Check.formed(D + "<!ENTITY a" + s + " 'xy'>]><a b='&a" + s + ";'>&a" + s + ";</a>").characters(), 2);
            Check.faulty("<a>&" + s + ";</a>", 5, 3);
            Check.faulty("<a b='&" + s + ";'/>", 5, 0);
            Check.faulty(D + "%" + s + ";" + E, 5, 13);
        }
        for (int c : NEITHER) {
            String s = Check.text(c);
            Check.faulty("<a>&" + s + ";</a>", 5, 3);
            Check.faulty("<a>&lt" + s + ";</a>", 5, 3);
            Check.faulty("<a b='&lt" + s + ";'/>", 5, 0);
            Check.faulty(D + "%a" + s + ";" + E, 5, 13);
        }
    }

    private static void tokens() {
        Check.says("A TOKEN is name characters, one at least.");
        for (int c : STARTS) {
            Check.good(D + "<!ATTLIST b c (" + Check.text(c) + ") #IMPLIED>" + E);
        }
        for (int c : OTHERS) {
            Check.good(D + "<!ATTLIST b c (" + Check.text(c) + ") #IMPLIED>" + E);
            Check.good(D + "<!ATTLIST b c (x|" + Check.text(c) + "x) #IMPLIED>" + E);
            Check.faulty(D + "<!ATTLIST b c NOTATION (" + Check.text(c) + ") #IMPLIED>" + E, 5, 13);
        }
        for (int c : NEITHER) {
            Check.faulty(D + "<!ATTLIST b c (" + Check.text(c) + ") #IMPLIED>" + E, 5, 13);
            Check.faulty(D + "<!ATTLIST b c (x" + Check.text(c) + ") #IMPLIED>" + E, 5, 13);
        }
        String[] empty = {"()", "( )", "(|)", "(x|)", "(|x)", "(x||x)", "(x| |x)"};
        for (String s : empty) {
            Check.faulty(D + "<!ATTLIST b c " + s + " #IMPLIED>" + E, 5, 13);
            Check.faulty(D + "<!ATTLIST b c NOTATION " + s + " #IMPLIED>" + E, 5, 13);
        }
    }

    private static void literals() {
        Check.says("LITERAL: a \" and characters but \" and then \"; or the same with '.");
        int[] some = {9, 10, 13, 32, 127, 128, 255, 256, 55295, 57344, 65533, 65536, 1114111};
        for (int c = 33; c < 127; c++) {
            literal(c);
        }
        for (int c : some) {
            literal(c);
        }
        String[] bad = {"'", "\"", "'x", "x'", "'x\"", "\"x'", "'''", "\"\"\"", "x", ""};
        for (String s : bad) {
            Check.faulty(D + "<!NOTATION n SYSTEM " + s + ">" + E, 5, 13);
            Check.faulty(D + "<!ENTITY e " + s + ">" + E, 5, 13);
            Check.faulty("<!DOCTYPE a SYSTEM " + s + "><a/>", 5, 0);
        }
        Check.good(D + "<!NOTATION n SYSTEM ''><!NOTATION n SYSTEM \"\">" + E);
    }

    private static void literal(int c) {
        for (int quote = 34; quote < 40; quote += 5) {
            String s = "<!NOTATION n SYSTEM " + (char) quote + Check.text(c) + (char) quote + ">";
            if (c == quote) {
                Check.faulty(D + s + E, 5, 13);
            } else {
                Check.good(D + s + E);
            }
        }
    }

    private static void publicLiterals() {
        Check.says("PUBLIC LITERAL: a literal of 32, 10, letters and digits below 128, and - ' ( ) + , . / : = ? ; ! * # @ $ _ % (no ' in one that is with ').");
        String marks = "-'()+,./:=?;!*#@$_%";
        for (int c = 9; c < 400; c++) {
            boolean so = c == 32 || c == 10 || c >= '0' && c <= '9' || c >= 'A' && c <= 'Z' || c >= 'a' && c <= 'z' || marks.indexOf(c) >= 0;
            // a 13 is a 10 in the text
            boolean inText = so || c == 13;
            boolean character = c == 9 || c == 10 || c == 13 || c >= 32;
            for (int quote = 34; quote < 40 && character; quote += 5) {
                boolean good = inText && c != quote;
                String literal = (char) quote + Check.text(c) + (char) quote;
                publicLiteral(D + "<!NOTATION n PUBLIC " + literal + ">" + E, good ? 0 : 5, 13);
                publicLiteral(D + "<!NOTATION n PUBLIC " + literal + " ''>" + E, good ? 0 : 5, 13);
                publicLiteral(D + "<!ENTITY e PUBLIC " + literal + " ''>" + E, good ? 3 : 5, 13);
                publicLiteral("<!DOCTYPE a PUBLIC " + literal + " ''><a/>", good ? 3 : 5, 0);
            }
        }
        String p = D + "<!ENTITY % p '<!NOTATION n PUBLIC \"&#~;\">'>%p;" + E;
        publicLiteral(p.replace("~", "10"), 0, 0);
        publicLiteral(p.replace("~", "32"), 0, 0);
        publicLiteral(p.replace("~", "13"), 5, p.indexOf("%p;") + 1);
        publicLiteral(p.replace("~", "9"), 5, p.indexOf("%p;"));
        publicLiteral(D + "<!NOTATION n PUBLIC ''><!NOTATION m PUBLIC \"\">" + E, 0, 0);
    }

    private static void publicLiteral(String text, int fault, int place) {
        if (fault == 0) {
            Check.good(text);
        } else {
            Check.faulty(text, fault, place);
        }
    }

    private static void digits() {
        Check.says("CHARACTER REFERENCE: '&#' decimal digits ';' | '&#x' digits 0-9 a-f A-F ';' (one at least).");
        for (int c = 32; c < 128; c++) {
            int decimal = c >= '0' && c <= '9' ? c - '0' : -1;
            int digit = decimal >= 0 ? decimal : c >= 'a' && c <= 'f' ? c - 'a' + 10 : c >= 'A' && c <= 'F' ? c - 'A' + 10 : -1;
            reference("&#" + (char) c + ";", decimal);
            reference("&#x" + (char) c + ";", digit);
            reference("&#4" + (char) c + ";", decimal < 0 ? c == ';' ? 4 : -1 : 40 + decimal);
            reference("&#x4" + (char) c + ";", digit < 0 ? c == ';' ? 4 : -1 : 64 + digit);
        }
        String[] bad = {"&#", "&#x", "&#;", "&#x;", "&#X20;", "&# 32;", "&#32 ;", "&#x 20;", "&#-32;", "&#+32;", "&#\u0663;", "&#xx20;", "&#0x20;"};
        for (String s : bad) {
            reference(s, -1);
        }
    }

    private static void reference(String s, int meant) {
        boolean character = meant == 9 || meant == 10 || meant == 13 || meant >= 32;
        if (character) {
            Check.due(s, Check.formed("<a b='" + s + "'>" + s + "</a>").attribute(0, 0, 1, 0), meant);
            Check.good(D + "<!ENTITY e '" + s + "'>" + E);
        } else {
            int fault = meant < 0 ? 5 : 12;
            Check.faulty("<a>" + s + "</a>", fault, 3);
            Check.faulty("<a b=\"" + s + "\"/>", fault, 0);
            Check.faulty(D + "<!ENTITY e '" + s + "'>" + E, fault, 13);
        }
    }

    private static void values() {
        Check.says("VALUE: a \" and characters but \" < &, and references, and then \"; or the same with '.");
        int[] some = {9, 10, 13, 128, 55295, 57344, 65533, 65536, 1114111};
        for (int c = 32; c < 128; c++) {
            value(c);
        }
        for (int c : some) {
            value(c);
        }
        String[] bad = {"'", "\"", "'x", "x'", "'x\"", "\"x'", "x", "", "'<'", "'&'", "'&x'", "'&;'", "'x' 'y'"};
        for (String s : bad) {
            String[] behind = {"/>", "></a>", "/>/>", " ></a>", "x/>"};
            for (String end : behind) {
                Check.faulty("<a b=" + s + end, 5, 0);
            }
            Check.faulty(D + "<!ATTLIST b c CDATA " + s + ">" + E, 5, 13);
            Check.faulty(D + "<!ATTLIST b c CDATA #FIXED " + s + ">" + E, 5, 13);
        }
    }

    private static void value(int c) {
        for (int quote = 34; quote < 40; quote += 5) {
            String s = (char) quote + Check.text(c) + (char) quote;
            if (c == quote || c == '<' || c == '&') {
                Check.faulty("<a b=" + s + "/>", 5, 0);
                Check.faulty(D + "<!ATTLIST a b CDATA " + s + ">" + E, 5, 13);
            } else {
                int want = c == 9 || c == 10 || c == 13 ? 32 : c;
                Check.due(s, Check.formed("<a b=" + s + "/>").attribute(0, 0, 1, 0), want);
                Check.due(s, Check.formed(D + "<!ATTLIST a b CDATA " + s + ">" + E).attribute(0, 0, 1, 0), want);
            }
        }
    }

    /** In these ~ is an S, ^ is an S? . */
    private static void spacesThatMustStand() {
        Check.says("S is one SPACE or more, S? none too");
        spaced("", "<?xml~version^=^'1.0'~encoding^=^'utf-8'~standalone^=^'no'^?>", "<a/>", 0);
        spaced("", "<?xml~version^=^\"1.0\"~standalone^=^\"yes\"^?>", "<a/>", 0);
        spaced("", "<!DOCTYPE~a^>", "<a/>", 0);
        spaced("", "<!DOCTYPE~a^[", "]><a/>", 0);
        spaced("<!DOCTYPE a [", "]^>", "<a/>", 0);
        spaced("", "<!DOCTYPE~a~SYSTEM~'x'^>", "<a/>", 3);
        spaced("", "<!DOCTYPE~a~PUBLIC~'x'~'y'^[", "]><a/>", 3);
        String[] within = {"<!ELEMENT~b~EMPTY^>", "<!ELEMENT~b~ANY^>", "<!ELEMENT~b~(^#PCDATA^)^>", "<!ELEMENT~b~(^#PCDATA^)*^>",
            "<!ELEMENT~b~(^#PCDATA^|^c^|^d^)*^>", "<!ELEMENT~b~(^c^)^>", "<!ELEMENT~b~(^c^|^d^)?^>", "<!ELEMENT~b~(^c?^,^(^d^|^e+^)*^,^f^)+^>",
            "<!ATTLIST~b^>", "<!ATTLIST~b~c~CDATA~#REQUIRED~d~ID~#IMPLIED~e~NMTOKEN~#FIXED~'x'~f NOTATION~(^n^|^m^)~'n'~g~(^1^|^2^)~\"1\"^>",
            "<!ENTITY~e~'x'^>", "<!ENTITY~%~e~\"x\"^>", "<!NOTATION~n~SYSTEM~'x'^>", "<!NOTATION~n~PUBLIC~'x'^>", "<!NOTATION~n~PUBLIC~'x'~\"y\"^>"};
        for (String s : within) {
            spaced(D, s, E, 0);
        }
        String[] outside = {"<!ENTITY~e SYSTEM~'x'^>", "<!ENTITY~e PUBLIC~'x'~'y'^>", "<!ENTITY~e SYSTEM~'x'~NDATA~n^>", "<!ENTITY~e PUBLIC~'x'~'y'~NDATA~n^>",
            "<!ENTITY~%~e SYSTEM~'x'^>", "<!ENTITY~%~e PUBLIC~'x'~'y'^>"};
        for (String s : outside) {
            spaced(D, s, E, 3);
        }
        spaced("", "<a~b^=^'x'~c^=^\"y\"^/>", "", 0);
        spaced("", "<a~b^=^'x'^>", "</a>", 0);
        spaced("", "<a^>", "</a>", 0);
        spaced("", "<a^/>", "", 0);
        spaced("<a>", "</a^>", "", 0);
        spaced("", "<?p^?>", "<a/>", 0);
    }

    private static void spaced(String before, String item, String behind, int fault) {
        String[] spaces = {"", " ", "\t", "\r", "\n", " \t\r\n "};
        for (int i = 0; i < item.length(); i++) {
            char c = item.charAt(i);
            for (int k = 0; k < spaces.length && (c == '~' || c == '^'); k++) {
                String left = plain(item.substring(0, i));
                String text = before + left + spaces[k] + plain(item.substring(i + 1)) + behind;
                int due = c == '~' && k == 0 ? 5 : fault;
                if (due == 0) {
                    Check.good(text);
                } else {
                    Check.faulty(text, due, before.length());
                }
            }
        }
    }

    private static String plain(String item) {
        return item.replace("~", " ").replace("^", "");
    }

    private static void longWords() {
        Check.says("name characters");
        String name = "n" + "-".repeat(4000);
        MarkupJudge x = Check.formed("<" + name + "/>");
        Check.due("the last one of a long name", x.name(0, 4000), '-');
        Check.due("behind it", x.name(0, 4001), -1);
        x = Check.formed("<a " + name + "='" + "v".repeat(4000) + "w'/>");
        Check.due("of an attribute", x.attribute(0, 0, 0, 4000), '-');
        Check.due("behind it", x.attribute(0, 0, 0, 4001), -1);
        Check.due("of a value", x.attribute(0, 0, 1, 4000), 'w');
        Check.due("behind it", x.attribute(0, 0, 1, 4001), -1);
        Check.faulty("<a " + name + "='' " + name + "=''/>", 8, 0);
        Check.good("<a " + name + "='' " + name + "x=''/>");
    }
}
