/** Promises 5 to 7: judge, fault, place; each item as it must be written, where it may stand, and its other faults. */
public final class FaultsTest {
    private static final String D = "<!DOCTYPE a [";

    private FaultsTest() {
    }

    public static void main(String[] args) {
        answers();
        head();
        comments();
        instructions();
        aroundTheRoot();
        declaration();
        parameterReferences();
        elementDeclarations();
        attributeDeclarations();
        entityDeclarations();
        notationDeclarations();
        names();
        tags();
        ends();
        sectionsAndRuns();
        references();
        entitiesInContent();
        values();
        defaultValues();
        order();
        Check.finish();
    }

    /** Wrong written within the brackets of a declaration, as the first thing there. */
    private static void wrong(String inside) {
        Check.faulty(D + inside + "]><a/>", 5, 13);
    }

    private static void right(String inside) {
        Check.good(D + inside + "]><a/>");
    }

    private static void answers() {
        MarkupJudge x = new MarkupJudge(0, 0);
        Check.due("nothing", x.judge(), 2);
        Check.due("fault", x.fault(), 6);
        Check.due("place", x.place(), 0);
        Check.due("well formed", Check.judge(x, "<a/>"), 1);
        Check.due("no fault", x.fault(), 0);
        Check.due("no place", x.place(), -1);
        Check.due("valid", Check.judge(x, D + "<!ELEMENT a EMPTY>]><a/>"), 0);
        Check.due("no fault", x.fault(), 0);
        Check.due("no place", x.place(), -1);
        Check.due("neither", Check.judge(x, "<a>"), 2);
        Check.due("fault", x.fault(), 6);
        Check.due("place", x.place(), 3);
        Check.due("no violations", x.violations(0), -1);
        Check.due("valid with a namespace violation", Check.judge(x, "<!DOCTYPE p:a [<!ELEMENT p:a ANY>]><p:a/>"), 0);
        Check.due("which it has", x.spaces(1), 1);
    }

    private static void head() {
        String[] good = {"<?xml version=\"1.0\"?>", "<?xml version='1.0'?>", "<?xml\tversion\n=\r'1.99' ?>",
            "<?xml version='1.0' encoding='utf-8'?>", "<?xml version='1.0' encoding=\"UtF-8\" ?>",
            "<?xml version='1.0' standalone='yes'?>", "<?xml version='1.0' standalone = \"no\"\n?>",
            "<?xml version='1.0' encoding='UTF-8' standalone='no'?>"};
        for (String s : good) {
            Check.good(s + "<a/>");
        }
        String[] bad = {"<?xml ?>", "<?xml version='1.0\"?>", "<?xml version=1.0?>", "<?xml version='2.0'?>", "<?xml version='1.'?>",
            "<?xml version='1'?>", "<?xml version='1.0a'?>", "<?xml version='1.0'? >", "<?xml version='1.0'encoding='UTF-8'?>",
            "<?xml encoding='UTF-8'?>", "<?xml version='1.0' encoding=''?>", "<?xml version='1.0' encoding='8'?>",
            "<?xml version='1.0' encoding='-a'?>", "<?xml version='1.0' encoding='a b'?>", "<?xml version='1.0' encoding='a:'?>",
            "<?xml version='1.0' standalone='YES'?>", "<?xml version='1.0' standalone=''?>",
            "<?xml version='1.0' standalone='yes\"?>", "<?xml version='1.0' standalone='yes' encoding='UTF-8'?>",
            "<?xml version='1.0' standalone='yes'encoding='UTF-8'?>", "<?xml version='1.0' x?>", "<?xml version='1.0'",
            "<?xml Version='1.0'?>", "<?xml version='1.0' encoding='UTF-8'standalone='yes'?>"};
        for (String s : bad) {
            Check.faulty(s + "<a/>", 5, 0);
        }
        String[] other = {"latin1", "utf8", "UTF-16", "US-ASCII", "utf-8.", "x"};
        for (String s : other) {
            Check.faulty("<?xml version='1.0' encoding='" + s + "'?><a/>", 2, 0);
        }
        Check.faulty("<?xml version='1.0' encoding='x'?>", 2, 0);
        Check.faulty(" <?xml version='1.0'?><a/>", 5, 1);
        Check.faulty("<?xml?><a/>", 5, 0);
        Check.good("<?xmlx version='1.0'?><a/>");
        wideHead("UTF-16", 0);
        wideHead("utf-16", 0);
        wideHead("UTF-8", 2);
        wideHead("UTF-16LE", 2);
    }

    private static void wideHead(String encoding, int fault) {
        String text = "\ufeff<?xml version='1.0' encoding='" + encoding + "'?><a/>";
        byte[] row = text.getBytes(java.nio.charset.StandardCharsets.UTF_16BE);
        MarkupJudge x = new MarkupJudge(0, 0);
        Check.due("16 bits and " + encoding, Check.judge(x, row), fault == 0 ? 1 : 2);
        Check.due("16 bits and " + encoding, x.fault(), fault);
    }

    private static void comments() {
        String[] good = {"<!---->", "<!-- -->", "<!--x-->", "<!-- - -->", "<!---x-->", "<!-- <a> & %p; ]]> ?> -->", "<!-->-->"};
        String[] bad = {"<!--->", "<!-->", "<!-- -- -->", "<!--x--->", "<!-- --", "<!--", "<!-- - ->", "<!-- -- >"};
        for (String s : good) {
            Check.good(s + "<a>" + s + "</a>" + s);
            right(s);
        }
        for (String s : bad) {
            Check.faulty(s, 5, 0);
            Check.faulty("<a>" + s, 5, 3);
            Check.faulty("<a/> " + s, 5, 5);
            Check.faulty(D + s, 5, 13);
        }
    }

    private static void instructions() {
        String[] good = {"<?a?>", "<?a ?>", "<?a b?>", "<?a\n\nb?c ??>", "<?xm?>", "<?xml-x y?>", "<?xmlxml?>", "<?a <?b ?>", "<?:?>"};
        String[] bad = {"<?xml?>", "<?XML?>", "<?xMl x?>", "<? a?>", "<?1?>", "<??>", "<?a", "<?a?b?>", "<?a/?>", "<?", "<?a ? >",
            "<?a=?>"};
        for (String s : good) {
            Check.good(s + "<a>" + s + "</a>" + s);
            right(s);
        }
        for (String s : bad) {
            Check.faulty(s + "<a/>", 5, 0);
            Check.faulty("<a>" + s + "</a>", 5, 3);
            Check.faulty("<a/>" + s, 5, 4);
            Check.faulty(D + s + "]><a/>", 5, 13);
        }
    }

    private static void aroundTheRoot() {
        Check.good(" \t\r\n<!--x--> <?a?> <!DOCTYPE a>\n<!--x--><?a?> <a/> <!--x--><?a?>\n");
        Check.faulty("", 6, 0);
        Check.faulty(" \n", 6, 2);
        Check.faulty("<!--x-->", 6, 8);
        Check.faulty("<!DOCTYPE a>", 6, 12);
        Check.faulty("<!DOCTYPE a>\r\n", 6, 13);
        Check.faulty("x<a/>", 6, 0);
        Check.faulty(" x<a/>", 6, 1);
        Check.faulty("&#32;<a/>", 6, 0);
        Check.faulty("]]><a/>", 6, 0);
        Check.faulty("%p;<a/>", 6, 0);
        Check.faulty("</a>", 6, 0);
        Check.faulty("</", 6, 0);
        Check.faulty("<![CDATA[x]]><a/>", 6, 0);
        Check.faulty("<!DOCTYPE a><!DOCTYPE a><a/>", 6, 12);
        Check.faulty("<!DOCTYPE a>!<a/>", 6, 12);
        Check.faulty("<!ELEMENT a ANY><a/>", 5, 0);
        Check.faulty("<![CDATA", 5, 0);
        Check.faulty("<!DOCTYP a><a/>", 5, 0);
        Check.faulty("<!doctype a><a/>", 5, 0);
        Check.faulty("<", 5, 0);
        Check.faulty("<!", 5, 0);
        Check.faulty("<a/><b/>", 6, 4);
        Check.faulty("<a/>x", 6, 4);
        Check.faulty("<a></a> &lt;", 6, 8);
        Check.faulty("<a/></a>", 6, 4);
        Check.faulty("<a/><!x", 6, 4);
        Check.faulty("<a/><", 6, 4);
        Check.faulty("<a/><!DOCTYPE a>", 6, 4);
        Check.faulty("<a/><![CDATA[]]>", 6, 4);
    }

    private static void declaration() {
        String[] good = {"<!DOCTYPE a>", "<!DOCTYPE\ta >", "<!DOCTYPE a[]>", "<!DOCTYPE a []>", "<!DOCTYPE a [ ] >", "<!DOCTYPE b:c>"};
        for (String s : good) {
            Check.good(s + "<a/>");
        }
        String[] bad = {"<!DOCTYPEa>", "<!DOCTYPE>", "<!DOCTYPE >", "<!DOCTYPE 1>", "<!DOCTYPE a b>", "<!DOCTYPE a", "<!DOCTYPE a ]>",
            "<!DOCTYPE a SYSTEM>", "<!DOCTYPE a SYSTEM x>", "<!DOCTYPE a SYSTEM'x'>", "<!DOCTYPE a SYSTEM 'x\">", "<!DOCTYPE aSYSTEM 'x'>x",
            "<!DOCTYPE a PUBLIC 'x'>", "<!DOCTYPE a PUBLIC 'x''y'>", "<!DOCTYPE a PUBLIC 'x' y>", "<!DOCTYPE a PUBLIC '^' 'y'>",
            "<!DOCTYPE a PUBLIC '\t' 'y'>", "<!DOCTYPE a PUBLIC '\u00e9' 'y'>", "<!DOCTYPE a PUBLIC \"&\" 'y'>",
            "<!DOCTYPE a PUBLIC \"\\\" 'y'>", "<!DOCTYPE a PUBLIC '<' 'y'>", "<!DOCTYPE a SYSTEM 'x' 'y'>", "<!DOCTYPE a system 'x'>"};
        for (String s : bad) {
            Check.faulty(s + "<a/>", 5, 0);
        }
        String[] outside = {"SYSTEM 'x'", "SYSTEM 'x'\n ", "PUBLIC '' ''\t", "SYSTEM \"'<&%\"", "PUBLIC 'x' 'y'", "PUBLIC \"'\"\n\"\"",
            "PUBLIC \"-'()+,./:=?;!*#@$_% \nazAZ09\" \"\u20ac\""};
        for (String s : outside) {
            Check.faulty("<!DOCTYPE a " + s + "><a/>", 3, 0);
            Check.faulty(" <!DOCTYPE a " + s + "[ x", 3, 1);
        }
        Check.faulty("<!DOCTYPE a [", 6, 13);
        Check.faulty("<!DOCTYPE a [ <!--x-->", 6, 22);
        Check.faulty("<!DOCTYPE a []", 5, 13);
        Check.faulty("<!DOCTYPE a [ ] x><a/>", 5, 14);
        String[] astray = {"x", "<a/>", "<", "<!", "<!X>", "<![CDATA[]]>", "<![INCLUDE[]]>", "</a>", "&#32;", "<!DOCTYPE a>", "<!element a ANY>",
            "<!ELEMEN a ANY>", "[", ">", "-->"};
        for (String s : astray) {
            Check.faulty(D + " " + s + "]><a/>", 6, 14);
        }
    }

    private static void parameterReferences() {
        Check.good(D + "<!ENTITY % p ''>%p;]><a/>");
        Check.good(D + "<!ENTITY % p ' <!ELEMENT a ANY><!-- x --> '>%p; %p;]><a/>");
        Check.faulty(D + "%p;]><a/>", 9, 13);
        Check.faulty(D + "<!ENTITY p ''>%p;]><a/>", 9, 27);
        Check.faulty(D + "%p;<!ENTITY % p ''>]><a/>", 9, 13);
        wrong("%");
        wrong("% p;");
        wrong("%p");
        wrong("%p ;");
        wrong("%1;");
        // its text is gone through without a bracket, and all that begins in it ends in it
        Check.faulty(D + "<!ENTITY % p ']'> %p;]><a/>", 6, 31);
        Check.faulty(D + "<!ENTITY % p 'x'> %p;]><a/>", 6, 31);
        Check.faulty(D + "<!ENTITY % p '<!ELEMENT a'> %p; ANY>]><a/>", 5, 41);
        Check.faulty(D + "<!ENTITY % p '&#37;p;'>%p;]><a/>", 10, 36);
        Check.faulty(D + "<!ENTITY % p '&#37;q;'><!ENTITY % q ' &#37;p;'>%p;]><a/>", 10, 60);
        Check.faulty(D + "<!ENTITY % p '&#37;q;'>%p;]><a/>", 9, 36);
        Check.faulty(D + "<!ENTITY % p '<!ENTITY e \"&#37;&#37;\">'>%p;]><a/>", 5, 53);
        Check.faulty(D + "<!ENTITY % p '<!ENTITY e \"&#37;x;\">'>%p;]><a/>", 13, 50);
        Check.good(D + "<!ENTITY % p '<!ENTITY e \"x\">'>%p;]><a>&e;</a>");
        Check.good(D + "<!ENTITY % p '<!ENTITY &#37; q \"<!ELEMENT a ANY>\"> &#37;q;'>%p;%q;]><a/>");
        // the first declaration counts
        Check.faulty(D + "<!ENTITY % p ''><!ENTITY % p 'x'>%p;]><a>", 6, 54);
    }

    private static void elementDeclarations() {
        String[] good = {"EMPTY", "ANY", "(#PCDATA)", "( #PCDATA )", "(#PCDATA)*", "(#PCDATA|b)*", "( #PCDATA | b|c )*", "(b)", "( b )", "(b)*",
            "(b?,c*,d+)", "(b|c)", "(b | c)", "((b,c)|d)+", "(((b)))", "((b|c)?,(d,e)*)", "(#PCDATA|b|b)*",
            "(b,b,b)", "(EMPTY)", "(b\n,\tc )?"};
        for (String s : good) {
            right("<!ELEMENT b " + s + ">");
            right("<!ELEMENT\nb\t" + s + " >");
        }
        String[] bad = {"", "EMPTYX", "empty", "ANY ANY", "b", "()", "( )", "(b,)", "(,b)", "(b c)", "(b|c,d)", "(b,c|d)", "(b", "b)", "(b))",
            "((b)", "(b)**", "(b?*)", "(b ?)", "(b) *", "(b|)", "(#PCDATA|b)", "(#PCDATA|b)+", "(#PCDATA)?", "(#PCDATA,b)*", "(b|#PCDATA)*",
            "(#PCDATA|(b))*", "(#PCDATA|b?)*", "(# PCDATA)", "(#PCDATA|b) *", "(#PCDATA|)*", "(#pcdata)", "(1)", "(b)%p;", "#PCDATA", "(b--c|)",
            "(#PCDATAb)"};
        for (String s : bad) {
            wrong("<!ELEMENT b " + s + ">");
        }
        wrong("<!ELEMENTb ANY>");
        wrong("<!ELEMENT b>");
        wrong("<!ELEMENT ANY>");
        wrong("<!ELEMENT b ANY");
        wrong("<!ELEMENT b(b)>");
        wrong("<!ELEMENT 1 ANY>");
        wrong("<!ELEMENT b -- x -- ANY>");
        wrong("<!ELEMENT %p; ANY>");
    }

    private static void attributeDeclarations() {
        right("<!ATTLIST b>");
        right("<!ATTLIST b >");
        String[] types = {"CDATA", "ID", "IDREF", "IDREFS", "ENTITY", "ENTITIES", "NMTOKEN", "NMTOKENS", "NOTATION (b)", "NOTATION ( b | c )",
            "(b)", "( 1|-|:b )", "(b|b)"};
        String[] defaults = {"#REQUIRED", "#IMPLIED", "'x'", "\"\"", "#FIXED 'x'", "#FIXED\n\"x &lt; &#32;\""};
        for (String type : types) {
            for (String value : defaults) {
                right("<!ATTLIST b c " + type + " " + value + ">");
                right("<!ATTLIST b\nc\t" + type + " " + value + " d CDATA #IMPLIED >");
                wrong("<!ATTLIST b c " + type + value + ">");
                wrong("<!ATTLIST b c" + type + "  " + value + "x>");
            }
            wrong("<!ATTLIST b c " + type + ">");
            wrong("<!ATTLIST b c " + type + " >");
        }
        String[] bad = {"c CDATA x", "c cdata #IMPLIED", "c CDATAS #IMPLIED", "c IDS #IMPLIED", "c NOTATION #IMPLIED", "c NOTATION(b) #IMPLIED",
            "c NOTATION () #IMPLIED", "c NOTATION (1) #IMPLIED", "c NOTATION (b,c) #IMPLIED", "c () #IMPLIED", "c (b|) #IMPLIED", "c (b c) #IMPLIED",
            "c (|b) #IMPLIED", "c (b,c) #IMPLIED", "c (b #IMPLIED", "c (b)* #IMPLIED", "c (\"b\") #IMPLIED", "c CDATA #FIXED", "c CDATA #FIXED'x'",
            "c CDATA #fixed 'x'", "c CDATA #FIXED #IMPLIED", "c CDATA 'x", "c CDATA '<'", "c CDATA '&'", "c CDATA '&x'", "c CDATA '&#;'",
            "c CDATA '&#x;'", "c CDATA '&#xg;'", "c CDATA '&#X1;'", "c CDATA 'x'd CDATA 'x'", "c CDATA #REQUIRED 'x'", "1 CDATA #IMPLIED",
            "c CDATA #IMPLIED d", "c CDATA #IMPLIED d CDATA", "c CDATA #REQUIREDd CDATA #IMPLIED"};
        for (String s : bad) {
            wrong("<!ATTLIST b " + s + ">");
        }
        wrong("<!ATTLISTb>");
        wrong("<!ATTLIST>");
        wrong("<!ATTLIST b");
    }

    private static void entityDeclarations() {
        String[] good = {"''", "\"\"", "'<'", "'</a>'", "'&lt;'", "'&x;'", "'&#32;'", "\"'\"", "'\"'", "'&#60;&#38;&#37;'", "']]>'"};
        for (String s : good) {
            right("<!ENTITY e " + s + ">");
            right("<!ENTITY\te\n" + s + " >");
            right("<!ENTITY % e " + s + ">");
            right("<!ENTITY % e " + s + " >");
        }
        String[] bad = {"", "x", "'x", "'x\"", "'&'", "'& x;'", "'&x'", "'&;'", "'&#;'", "'&#x;'", "'%'", "'% p;'", "'%p'", "'%;'", "'x' NDATA n",
            "SYSTEM", "SYSTEM x", "PUBLIC 'x'", "SYSTEM 'x'NDATA n", "SYSTEM 'x' NDATA", "SYSTEM 'x' NDATA 'n'", "SYSTEM 'x' NDATAn",
            "SYSTEM 'x' n", "'x''y'", "PUBLIC '^' 'x'"};
        for (String s : bad) {
            wrong("<!ENTITY e " + s + ">");
            wrong("<!ENTITY % e " + s + ">");
        }
        wrong("<!ENTITYe 'x'>");
        wrong("<!ENTITY e'x'>");
        wrong("<!ENTITY 'x'>");
        wrong("<!ENTITY %e 'x'>");
        wrong("<!ENTITY% e 'x'>");
        wrong("<!ENTITY e 'x'");
        wrong("<!ENTITY % e SYSTEM 'x' NDATA n>");
        String[] outside = {"SYSTEM 'x'", "PUBLIC 'x' 'y'", "SYSTEM 'x' ", "SYSTEM ''\nNDATA n", "SYSTEM ''\nNDATA n "};
        for (String s : outside) {
            Check.faulty(D + "<!ENTITY e " + s + ">]><a/>", 3, 13);
            if (s.indexOf("NDATA") < 0) {
                Check.faulty(D + " <!ENTITY % e " + s + ">]><a/>", 3, 14);
            }
        }
        Check.faulty(D + "<!ENTITY e 'x%p;'>]><a/>", 13, 13);
        Check.faulty(D + "<!ENTITY e '%p;&#0;'>]><a/>", 13, 13);
        Check.faulty(D + "<!ENTITY e '&#0;%p;'>]><a/>", 12, 13);
        Check.faulty(D + "<!ENTITY e '&#xD800;'>]><a/>", 12, 13);
        Check.faulty(D + "<!ENTITY e '&#xFFFFFFFFFFFFFFFF;'>]><a/>", 12, 13);
        Check.faulty(D + "<!ENTITY e 'x'><!ENTITY e '&#4294967306;'>]><a/>", 12, 28);
        Check.faulty(D + "<!ENTITY e 'x'><!ENTITY e SYSTEM 'x'>]><a/>", 3, 28);
    }

    private static void notationDeclarations() {
        String[] good = {"SYSTEM 'x'", "SYSTEM \"\"", "PUBLIC 'x'", "PUBLIC 'x' 'y'", "PUBLIC \"'\" '\"'"};
        for (String s : good) {
            right("<!NOTATION n " + s + ">");
            right("<!NOTATION\nn\t" + s + " >");
        }
        String[] bad = {"", "'x'", "SYSTEM", "SYSTEM x", "SYSTEM'x'", "SYSTEM 'x' 'y'", "PUBLIC", "PUBLIC 'x''y'", "PUBLIC '\u00e9'",
            "PUBLIC 'x' y", "PUBLIC 'x' 'y' 'z'", "PUBLIC '%^'", "public 'x'", "SYSTEM 'x' NDATA n"};
        for (String s : bad) {
            wrong("<!NOTATION n " + s + ">");
        }
        wrong("<!NOTATIONn SYSTEM ''>");
        wrong("<!NOTATION SYSTEM ''>");
        wrong("<!NOTATION n SYSTEM ''");
    }

    private static void names() {
        int[] starts = {':', 'A', 'Z', '_', 'a', 'z', 192, 214, 216, 246, 248, 767, 880, 893, 895, 8191, 8204, 8205, 8304, 8591, 11264, 12271,
            12289, 55295, 63744, 64975, 65008, 65533, 65536, 983039};
        int[] others = {'-', '.', '0', '9', 183, 768, 879, 8255, 8256};
        int[] none = {'@', '[', '`', '{', '!', ',', '*', 127, 160, 182, 184, 191, 215, 247, 894, 8192, 8203, 8206, 8254, 8257, 8303, 8592, 11263,
            12272, 12288, 57344, 63743, 64976, 65007, 983040, 1114111};
        for (int c : starts) {
            String s = new String(Character.toChars(c));
            Check.good("<" + s + "/>");
            Check.good("<a" + s + "/>");
        }
        for (int c : others) {
            String s = new String(Character.toChars(c));
            Check.faulty("<" + s + "/>", 5, 0);
            Check.good("<a" + s + "/>");
            right("<!ATTLIST a b (" + s + ") #IMPLIED>");
        }
        for (int c : none) {
            String s = new String(Character.toChars(c));
            Check.faulty("<" + s + "/>", 5, 0);
            Check.faulty("<a" + s + "/>", 5, 0);
            wrong("<!ATTLIST a b (" + s + ") #IMPLIED>");
        }
    }

    private static void tags() {
        String[] good = {"<b/>", "<b />", "<b\n/>", "<b></b>", "<b ></b\t>", "<b c='d'/>", "<b\nc\t=\r'd' />", "<b c='' d=''/>",
            "<b c='\"'/>", "<b c=\"'>\"/>", "<b c='&lt;&#60;&amp;]]>'/>"};
        for (String s : good) {
            Check.good("<a>" + s + "</a>");
        }
        String[] bad = {"<b", "<b c", "<b c=", "<b c='", "<b c='d", "<b c='d'", "<b/ >", "< b/>", "<b c/>", "<b c=d/>", "<b c='d\"/>", "<b c=''d=''/>",
            "<b='c'/>", "<b 'c'/>", "<b c='<'/>", "<b c='&'/>", "<b c='&x'/>", "<b c='&#x;'/>", "<b c='& lt;'/>", "<b,/>", "<1/>", "<>", "<b /c>",
            "<b c='d'/ >", "<b 1='c'/>", "<b c='d' / e='f'>", "<!b/>", "<!ELEMENT b ANY>"};
        for (String s : bad) {
            Check.faulty("<a>" + s + "</a>", 5, 3);
            Check.faulty("<a>xy" + s, 5, 5);
        }
        Check.faulty("<a b='1' b='2'/>", 8, 0);
        Check.faulty("<a> <b c='1' d='' c='1'/></a>", 8, 4);
        Check.good("<a b='1' B='1' b:b='1'/>");
    }

    private static void ends() {
        Check.faulty("<a>", 6, 3);
        Check.faulty("<a><b></b>", 6, 10);
        Check.faulty("<a></b>", 7, 3);
        Check.faulty("<a><b></a></b>", 7, 6);
        Check.faulty("<a></A>", 7, 3);
        Check.faulty("<a></aa>", 7, 3);
        Check.faulty("<a></ a>", 5, 3);
        Check.faulty("<a></a", 5, 3);
        Check.faulty("<a></>", 5, 3);
        Check.faulty("<a></a b='c'>", 5, 3);
        Check.faulty("<a></a/>", 5, 3);
        Check.faulty("<a></", 5, 3);
        Check.good("<a></a\r\n>");
    }

    private static void sectionsAndRuns() {
        String[] good = {"<![CDATA[]]>", "<![CDATA[]]]>", "<![CDATA[]]]]>", "<![CDATA[<a>&x;]]>", "<![CDATA[]] >]]>", "<![CDATA[<![CDATA[]]>", "]]", "]>",
            "] ]>", "]x>", "]]x>", "]]&gt;", "\"'%;=", ">", "]]<![CDATA[]]>>"};
        for (String s : good) {
            Check.good("<a>" + s + "</a>");
        }
        Check.faulty("<a>]]></a>", 5, 3);
        Check.faulty("<a>x<b/>yy]]>z</a>", 5, 8);
        Check.faulty("<a>]]]></a>", 5, 3);
        Check.faulty("<a>]]>", 5, 3);
        Check.faulty("<a>x<![CDATA[</a>", 5, 4);
        Check.faulty("<a><![CDATA[]]", 5, 3);
        Check.faulty("<a><![cdata[]]></a>", 5, 3);
        Check.faulty("<a><![CDATA []]></a>", 5, 3);
        Check.faulty("<a>x<!DOCTYPE a></a>", 6, 4);
    }

    private static void references() {
        String[] good = {"&lt;", "&gt;", "&amp;", "&apos;", "&quot;", "&#9;", "&#10;", "&#13;", "&#32;", "&#x20;", "&#0032;", "&#xd7ff;", "&#xE000;",
            "&#xFFFD;", "&#x10000;", "&#x10FFFF;", "&#1114111;"};
        String[] none = {"&#0;", "&#1;", "&#8;", "&#11;", "&#12;", "&#14;", "&#31;", "&#xD800;", "&#xDFFF;", "&#xFFFE;", "&#xFFFF;", "&#x110000;",
            "&#4294967328;", "&#x100000020;", "&#99999999999999999999;"};
        String[] bad = {"&", "& ", "&;", "&#", "&#;", "&#x;", "&#X20;", "&#a;", "&#xg;", "&#3 2;", "&lt", "&lt ;", "&1;", "&#-1;", "&&lt;"};
        for (String s : good) {
            Check.good("<a b='" + s + "'>" + s + "</a>");
        }
        for (String s : none) {
            Check.faulty("<a>x" + s + "</a>", 12, 4);
            Check.faulty("<a> <b c='" + s + "'/></a>", 12, 4);
            Check.faulty(D + "<!ATTLIST a b CDATA '" + s + "'>]><a/>", 12, 13);
        }
        for (String s : bad) {
            Check.faulty("<a>x" + s + "</a>", 5, 4);
            Check.faulty("<a> <b c='" + s + "'/></a>", 5, 4);
        }
        Check.faulty("<a>&x;</a>", 9, 3);
        Check.faulty("<!DOCTYPE a><a>&x;</a>", 9, 15);
        Check.faulty(D + "]><a>&x;</a>", 9, 18);
        Check.faulty(D + "<!ENTITY % x ''>]><a>&x;</a>", 9, 34);
        // with a parameter reference before it nothing stands there
        String p = D + "<!ENTITY % p ''>%p;]>";
        Check.good(p + "<a>&x;</a>");
        Check.good(p + "<a b='&x;'/>");
        Check.good("<?xml version='1.0' standalone='no'?>" + p + "<a>&x;</a>");
        Check.faulty("<?xml version='1.0' standalone='yes'?>" + p + "<a>&x;</a>", 9, 75);
        Check.faulty("<?xml version='1.0' standalone='yes'?>" + p + "<a b='&x;'/>", 9, 72);
        Check.faulty(D + "<!ENTITY % p ''><!ATTLIST a b CDATA '&x;'>%p;]><a/>", 9, 29);
        Check.good(D + "<!ENTITY % p ''>%p;<!ATTLIST a b CDATA '&x;'>]><a/>");
        Check.good(D + "<!ENTITY % p '<!ATTLIST a b CDATA \"&#38;x;\">'>%p;]><a/>");
    }

    private static void entitiesInContent() {
        Check.good(D + "<!ENTITY e '<b>x</b>'>]><a>&e;&e;</a>");
        Check.good(D + "<!ENTITY e '&f;&f;'><!ENTITY f '<b>&g;</b>'><!ENTITY g ''>]><a>&e;</a>");
        Check.good(D + "<!ENTITY e ']]'>]><a>&e;></a>");
        Check.good(D + "<!ENTITY e '&#38;#38;x;'>]><a>&e;</a>");
        String e = D + "<!ENTITY e '";
        Check.faulty(e + "<b>'>]><a>&e;</b></a>", 14, 35);
        Check.faulty(e + "</a>'>]><a>&e;", 14, 36);
        Check.faulty(e + "</b>'>]><a>&e;", 7, 36);
        Check.faulty(e + "</a><a>'>]><a>&e;</a>", 14, 39);
        Check.faulty(e + "<b>&f;'><!ENTITY f '</b>'>]><a>&e;</a>", 14, 56);
        Check.faulty(e + "<b>&f;</b>'><!ENTITY f '</b>'>]><a>&e;</a>", 14, 60);
        Check.faulty(e + "<b'>]><a>&e;/></a>", 5, 34);
        Check.faulty(e + "<'>]><a>&e;b/></a>", 5, 33);
        Check.faulty(e + "&#38;'>]><a>&e;lt;</a>", 5, 37);
        Check.faulty(e + "<!--'>]><a>&e;--></a>", 5, 36);
        Check.faulty(e + "x]]>'>]><a>&e;</a>", 5, 36);
        Check.faulty(e + "<!DOCTYPE a>'>]><a>&e;</a>", 6, 44);
        Check.faulty(e + "<?xml version=\"1.0\"?>'>]><a>&e;</a>", 5, 53);
        Check.faulty(e + "<b c=\"1\" c=\"1\"/>'>]><a>&e;</a>", 8, 48);
        Check.faulty(e + "&e;'>]><a>&e;</a>", 10, 35);
        Check.faulty(e + "x&f;'><!ENTITY f '<b>&e;</b>'>]><a> &e;</a>", 10, 61);
        Check.faulty(e + "<b c=\"&e;\"/>'>]><a>&e;</a>", 10, 44);
        Check.faulty(e + "&x;'>]><a><b>&e;</b></a>", 9, 38);
        Check.faulty(e + "&#38;#0;'>]><a>&e;</a>", 12, 40);
        // of an item within an entity's text within another one: the reference in the text itself
        Check.faulty(D + "<!ENTITY e 'xxxx&f;'><!ENTITY f 'yy&x;'>]><a>&e;</a>", 9, 58);
        Check.good(e + "&x;'>]><a/>");
        Check.good(e + "&e;'>]><a/>");
        Check.good(D + "<!ENTITY lt 'x'><!ENTITY gt '&x;'>]><a b='&lt;&gt;'>&lt;&gt;</a>");
        Check.good(e + "x'><!ENTITY e '<'>]><a>&e;</a>");
    }

    private static void values() {
        String e = D + "<!ENTITY e '";
        Check.good(e + "x\"\"&#39;'>]><a b='&e;' c=\"&e;\"/>");
        Check.faulty(e + "<'>]><a b='&e;'/>", 11, 30);
        Check.faulty(e + "&#60;'>]><a> <b c='&e;'/></a>", 11, 38);
        Check.good(e + "&#38;#60;'>]><a b='&e;'/>");
        Check.good(e + "&lt;'>]><a b='&e;'/>");
        Check.faulty(e + "&#38;'>]><a b='&e;'/>", 5, 34);
        Check.faulty(e + "&#38;x'>]><a b='&e;;'/>", 5, 35);
        Check.faulty(e + "&#38;#x;'>]><a b='&e;'/>", 5, 37);
        Check.faulty(e + "&e;'>]><a b='&e;'/>", 10, 32);
        Check.faulty(e + "&f;'><!ENTITY f '&e;'>]><a b='&e;'/>", 10, 49);
        Check.good(e + "&f;&f;'><!ENTITY f 'x'>]><a b='&e;&f;&e;'/>");
        Check.faulty("<a b='&x;'/>", 9, 0);
        // within another entity's text, too, the reference in the text itself is the place
        Check.faulty(e + "<b c=\"&x;\"/>'>]><a>&e;</a>", 9, 44);
    }

    private static void defaultValues() {
        Check.good(D + "<!ENTITY e 'x'><!ATTLIST a b CDATA '&e;'>]><a/>");
        Check.faulty(D + "<!ATTLIST a b CDATA '&e;'><!ENTITY e 'x'>]><a/>", 9, 13);
        Check.faulty(D + "<!ENTITY e '<'><!ATTLIST a b CDATA #FIXED '&e;'>]><a b='x'/>", 11, 28);
        Check.faulty(D + "<!ENTITY e '&e;'><!ATTLIST a b CDATA '&e;'>]><a/>", 10, 30);
        // those of later declarations, too
        Check.faulty(D + "<!ATTLIST a b CDATA 'x' b CDATA '&e;'>]><a/>", 9, 13);
        Check.faulty(D + "<!ATTLIST a b CDATA #IMPLIED> <!ATTLIST a b CDATA '&#0;'>]><a/>", 12, 43);
        Check.faulty(D + "<!ENTITY % p '<!ATTLIST a b CDATA \"&#38;#0;\">'>%p;]><a/>", 12, 60);
    }

    private static void order() {
        // what an item may be comes before how it is written, that before all else, then from left to right
        Check.faulty("<a/><b", 6, 4);
        Check.faulty("<a b='' b='' c='<'/>", 5, 0);
        Check.faulty("<a b='&x;' c='&#0;' c=''", 5, 0);
        Check.faulty("<a b='&x;' c='&#0;' c=''/>", 9, 0);
        Check.faulty("<a b='&#0;' c='&x;' c=''/>", 12, 0);
        Check.faulty("<a b='' b='&x;'/>", 8, 0);
        Check.faulty("<a b='&x;' b=''/>", 9, 0);
        Check.faulty("<a>&#0;&x;</a>", 12, 3);
        Check.faulty(D + "<!ENTITY e '<'><!ENTITY f '&#38;'>]><a b='&f;&e;'/>", 5, 49);
        Check.faulty(D + "<!ENTITY e '<'><!ENTITY f '&#38;'>]><a b='&e;&f;'/>", 11, 49);
        Check.faulty(D + "<!ATTLIST a b CDATA '&x;' c>]><a/>", 5, 13);
        Check.faulty(D + "<!ATTLIST a b CDATA '&x;' c CDATA '&#0;'>]><a/>", 9, 13);
        Check.faulty("<?xml version='1.0' encoding='x' ?", 5, 0);
        Check.faulty("<!DOCTYPE a SYSTEM 'x' x><a/>", 5, 0);
        Check.faulty("<a></b", 5, 3);
        Check.faulty(D + "<!ENTITY e '</b>'>]><a>&e;</a>", 7, 36);
    }
}
