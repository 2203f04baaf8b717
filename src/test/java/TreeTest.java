/** Promises 10 to 16: elements, attributes, parent, name, attribute, characters, counted. */
public final class TreeTest {
    private static final int NONE = MarkupJudge.NONE;

    private TreeTest() {
    }

    public static void main(String[] args) {
        elementsInOrder();
        noneSuch();
        names();
        attributesInOrder();
        valuesAsWritten();
        valuesByType();
        characters();
        counted();
        gone();
        Check.finish();
    }

    private static void elementsInOrder() {
        MarkupJudge x = Check.formed("<a><b><c/></b><d/><e><f><g/></f></e></a>");
        Check.due("elements", x.elements(), 7);
        int[] parents = {NONE, 0, 1, 0, 0, 4, 5};
        String[] names = {"a", "b", "c", "d", "e", "f", "g"};
        for (int e = 0; e < 7; e++) {
            Check.due("parent of " + e, x.parent(e), parents[e]);
            Check.due("name of " + e, Check.name(x, e), names[e]);
            Check.due("attributes of " + e, x.attributes(e), 0);
        }
        x = Check.formed("<!DOCTYPE a [<!ENTITY e '<b>&f;</b>'><!ENTITY f '<c/>'>]><a>&e;<d>&f;</d>&e;</a>");
        Check.due("elements by references", x.elements(), 7);
        int[] through = {NONE, 0, 1, 0, 3, 0, 5};
        for (int e = 0; e < 7; e++) {
            Check.due("parent of " + e, x.parent(e), through[e]);
        }
    }

    private static void noneSuch() {
        MarkupJudge x = Check.formed("<ab c='d'/>");
        int[] outside = {-1, 1, Integer.MIN_VALUE, Integer.MAX_VALUE};
        for (int n : outside) {
            Check.due("attributes(" + n + ")", x.attributes(n), NONE);
            Check.due("parent(" + n + ")", x.parent(n), NONE);
            Check.due("name(" + n + ", 0)", x.name(n, 0), NONE);
            Check.due("attribute(" + n + ", 0, 0, 0)", x.attribute(n, 0, 0, 0), NONE);
            Check.due("attribute(0, " + n + ", 0, 0)", x.attribute(0, n, 0, 0), NONE);
            Check.due("attribute(0, 0, 0, " + n + ")", x.attribute(0, 0, 0, n), NONE);
            Check.due("attribute(0, 0, 1, " + n + ")", x.attribute(0, 0, 1, n), NONE);
        }
        Check.due("name(0, -1)", x.name(0, -1), NONE);
        Check.due("name(0, 0)", x.name(0, 0), 'a');
        Check.due("name(0, 1)", x.name(0, 1), 'b');
        Check.due("name(0, 2)", x.name(0, 2), NONE);
        Check.due("name", x.attribute(0, 0, 0, 0), 'c');
        Check.due("value", x.attribute(0, 0, 1, 0), 'd');
        Check.due("what = -1", x.attribute(0, 0, -1, 0), NONE);
        Check.due("what = 2", x.attribute(0, 0, 2, 0), NONE);
    }

    private static void names() {
        MarkupJudge x = Check.formed("<\u00e9\ud83d\ude00:x \u2c00='\ud83d\ude00'/>");
        Check.due("name(0, 0)", x.name(0, 0), 0xE9);
        Check.due("name(0, 1)", x.name(0, 1), 0x1F600);
        Check.due("name(0, 2)", x.name(0, 2), ':');
        Check.due("attribute name", x.attribute(0, 0, 0, 0), 0x2C00);
        Check.due("attribute value", x.attribute(0, 0, 1, 0), 0x1F600);
        Check.due("attribute value", x.attribute(0, 0, 1, 1), NONE);
    }

    private static String told(MarkupJudge x, int e) {
        StringBuilder told = new StringBuilder();
        for (int a = 0; a < x.attributes(e); a++) {
            told.append(a > 0 ? "|" : "").append(Check.part(x, e, a, 0)).append('=').append(Check.part(x, e, a, 1));
        }
        return told.toString();
    }

    private static void attributesInOrder() {
        MarkupJudge x = Check.formed("<a z='1' b='2' xmlns='3' xmlns:c='4'><b/><c d=''/></a>");
        Check.due("in the order of the tag", told(x, 0), "z=1|b=2|xmlns=3|xmlns:c=4");
        Check.due("none", x.attributes(1), 0);
        Check.due("one", told(x, 2), "d=");
        String d = "<!DOCTYPE a [<!ATTLIST a p CDATA '1' q CDATA #IMPLIED r CDATA #FIXED '2' s CDATA #REQUIRED>"
            + "<!ATTLIST b p CDATA '3'><!ATTLIST a b CDATA '4' p CDATA '5' q CDATA '6'>]>";
        x = Check.formed(d + "<a><a b='x' s='y'/><a r='' p=''/><b/><c/></a>");
        Check.due("by default", told(x, 0), "p=1|r=2|b=4");
        Check.due("behind those of the tag", told(x, 1), "b=x|s=y|p=1|r=2");
        Check.due("not for those of the tag", told(x, 2), "r=|p=|b=4");
        Check.due("of another name", told(x, 3), "p=3");
        Check.due("of no such name", x.attributes(4), 0);
    }

    private static void value(String declarations, String written, String want) {
        MarkupJudge x = Check.formed("<!DOCTYPE a [" + declarations + "]><a v=\"" + written + "\"/>");
        Check.due(declarations + " " + written, Check.part(x, 0, 0, 1), want);
    }

    private static void valuesAsWritten() {
        value("", "", "");
        value("", " x \t\n\r\r\n y ", " x      y ");
        value("", "&#32;&#9;&#10;&#13;&#x1F600;", " \t\n\r\ud83d\ude00");
        value("", "&lt;&gt;&amp;&apos;&quot;>'", "<>&'\">'");
        value("<!ENTITY e 'x\ty\n'>", "[&e;&e;]", "[x y x y ]");
        value("<!ENTITY e '&#9;&#13;&#10;'>", "[&e;]", "[   ]");
        value("<!ENTITY e '&#38;#9;&#38;#38;'>", "[&e;]", "[\t&]");
        value("<!ENTITY e '&f;\"&f;'><!ENTITY f '&lt;&#38;lt;'>", "&e;", "<<\"<<");
        value("<!ENTITY e '&#38;#38;lt;'>", "&e;", "&lt;");
        value("<!ENTITY % p ''>%p;", "[&x;]", "[]");
        value("<!ENTITY e 'x'><!ENTITY e 'y'><!ENTITY lt 'z'>", "&e;&lt;", "x<");
        value("<!ENTITY e '&#37;p;'>", "&e;%p;", "%p;%p;");
    }

    private static void valuesByType() {
        String[] types = {"ID", "IDREF", "IDREFS", "ENTITY", "ENTITIES", "NMTOKEN", "NMTOKENS", "(x)", "NOTATION (x)"};
        for (String type : types) {
            value("<!ATTLIST a v " + type + " #IMPLIED>", "  x \n  y\t", "x y");
            value("<!ATTLIST a v " + type + " #IMPLIED>", "&#32;&#32;x&#32;", "x");
            value("<!ATTLIST a v " + type + " #IMPLIED>", " &#9; x&#10;&#10;", "\t x\n\n");
            value("<!ATTLIST a v " + type + " #IMPLIED>", "   ", "");
            MarkupJudge x = Check.formed("<!DOCTYPE a [<!ATTLIST a v " + type + " ' x  y '>]><a/>");
            Check.due("by default, " + type, Check.part(x, 0, 0, 1), "x y");
        }
        value("<!ATTLIST a v CDATA #IMPLIED v ID #IMPLIED>", " x  y ", " x  y ");
        value("<!ATTLIST a v ID #IMPLIED v CDATA #IMPLIED>", " x  y ", "x y");
        value("<!ATTLIST b v ID #IMPLIED>", " x  y ", " x  y ");
        // a default value is found when it is declared
        MarkupJudge x = Check.formed("<!DOCTYPE a [<!ENTITY e 'x'><!ATTLIST a v CDATA '&e;'><!ENTITY e 'y'>]><a/>");
        Check.due("found when declared", Check.part(x, 0, 0, 1), "x");
    }

    private static void characters(String text, int want) {
        Check.due("characters of " + text, Check.formed(text).characters(), want);
    }

    private static void characters() {
        characters("<a/>", 0);
        characters(" <a> x\r\ny </a> <?b c?>", 5);
        characters("<a b='xyz'>1<b>2</b>3<!-- 4 --><?c 5?></a>", 3);
        characters("<a>&lt;&#32;&amp;<![CDATA[&lt;]]><![CDATA[]]></a>", 7);
        characters("<!DOCTYPE a [<!ENTITY e 'xy&f;'><!ENTITY f '<b>z&#38;#32;</b>'>]><a>&e;&f;</a>", 6);
        characters("<!DOCTYPE a [<!ENTITY % p ''>%p;]><a>x&y;</a>", 1);
    }

    private static void counted(String text, int want) {
        Check.due("counted of " + text, Check.formed(text).counted(), want);
    }

    private static void counted() {
        counted("<a/>", 4);
        counted("<a>\r\n&lt;&#32;</a>", 17);
        String d = "<!DOCTYPE a [<!ENTITY e 'xyz'><!ENTITY f '&e;&e;'><!ENTITY lt 'xxx'>]>";
        counted(d + "<a/>", d.length() + 4);
        counted(d + "<a>&e;</a>", d.length() + 10 + 3);
        counted(d + "<a>&f;</a>", d.length() + 10 + 6 + 3 + 3);
        counted(d + "<a b='&f;'>&e;&lt;</a>", d.length() + 22 + 12 + 3);
        d = "<!DOCTYPE a [<!ENTITY % p '<!ENTITY e \"xyz\">'>%p; %p;<!ATTLIST a b CDATA '&e;'><!ATTLIST a b CDATA '&e;&e;'>]>";
        counted(d + "<a/>", d.length() + 4 + 2 * 18 - 2 + 3 * 3);
    }

    private static void gone() {
        MarkupJudge x = Check.formed("<a b='c'>d</a>");
        Check.judge(x, "<a b='c'>d</a");
        Check.due("elements", x.elements(), 0);
        Check.due("attributes", x.attributes(0), NONE);
        Check.due("parent", x.parent(0), NONE);
        Check.due("name", x.name(0, 0), NONE);
        Check.due("attribute", x.attribute(0, 0, 0, 0), NONE);
        Check.due("characters", x.characters(), 0);
        Check.due("counted", x.counted(), 0);
        Check.judge(x, "<e/>");
        Check.due("another one", Check.name(x, 0), "e");
        Check.due("has no attributes", x.attributes(0), 0);
        Check.due("and no characters", x.characters(), 0);
    }
}
