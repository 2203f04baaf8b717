/** Promise 8: violations, constraint by constraint. */
public final class ValidTest {
    private ValidTest() {
    }

    public static void main(String[] args) {
        which();
        root();
        elementDeclarations();
        deterministic();
        empty();
        models();
        mixedAndAny();
        attributesInTags();
        types();
        fixed();
        identities();
        declaredIdentities();
        declaredValues();
        notations();
        entityWords();
        missingEntities();
        Check.finish();
    }

    /** Violations, and that judge() answers 0 just if there are none. */
    private static void due(String text, String want) {
        MarkupJudge x = new MarkupJudge(0, 0);
        Check.due(text + " judge()", Check.judge(x, text), want.isEmpty() ? 0 : 1);
        Check.due(text, Check.violations(x), want);
    }

    /** The root a is declared as ANY, and so are b and c. */
    private static void inside(String declarations, String root, String want) {
        due("<!DOCTYPE a [<!ELEMENT a ANY><!ELEMENT b ANY><!ELEMENT c ANY>" + declarations + "]>" + root, want);
    }

    private static void which() {
        MarkupJudge x = Check.formed("<a b=''><c/></a>");
        Check.due("no declaration: the others are none", Check.violations(x), "0:1");
        Check.due("violations(-1)", x.violations(-1), -1);
        Check.due("violations(23)", x.violations(23), -1);
        Check.due("violations(22)", x.violations(22), 0);
        Check.judge(x, "<a>");
        Check.due("without a document", x.violations(0), -1);
    }

    private static void root() {
        due("<!DOCTYPE a [<!ELEMENT a EMPTY>]><a/>", "");
        due("<!DOCTYPE b [<!ELEMENT a EMPTY>]><a/>", "1:1");
        due("<!DOCTYPE b [<!ELEMENT b ANY><!ELEMENT a ANY>]><a><b/></a>", "1:1");
        due("<!DOCTYPE a><a/>", "5:1");
        due("<!DOCTYPE a><b><a/><a/></b>", "1:1 5:3");
    }

    private static void elementDeclarations() {
        inside("<!ELEMENT d ANY>", "<a/>", "");
        inside("<!ELEMENT a ANY>", "<a/>", "2:1");
        inside("<!ELEMENT a EMPTY><!ELEMENT a EMPTY><!ELEMENT b (c)>", "<a><b/></a>", "2:3");
        inside("<!ELEMENT d (#PCDATA|b|c|a)*>", "<a/>", "");
        inside("<!ELEMENT d (#PCDATA|b|b|c|b|c)*>", "<a/>", "3:3");
        inside("<!ELEMENT d (#PCDATA | b | b )*><!ELEMENT d (#PCDATA|\nc|c|d )*>", "<a/>", "2:1 3:2");
        inside("<!ELEMENT d (b,(c|b)*)>", "<a/>", "");
    }

    private static void deterministic() {
        String[] so = {"(b)", "(b,b)", "(b,b?,c)", "(b|c)", "(b|c)*", "(b*,c)", "(b?,c?,d?)", "((b,c)|(c,d))", "((b,c)*,d)", "(b+,c)", "((b|c)+)", "((b*)*)",
            "((b?)+)", "(b,(c,b)*)", "((b|c),(b|c))", "((b,c?)*,d)"};
        String[] not = {"(b|b)", "(b?,b)", "(b*,b)", "(b+,b)", "((b,c)|(b,d))", "((b|c)*,c)", "(b,c?,c)", "((b,c)*,b)", "(b,(c|d)*,d)", "((b?,c?)*,c)",
            "((b,c?)+,c)", "(c?,(b|c))", "((b*|c)*,b)", "(d,(b?|c?),b)", "((b,b?)*)", "((b?,d?,b?)*)", "(((b)|(c))?,c)"};
        for (String s : so) {
            inside("<!ELEMENT d " + s + ">", "<a/>", "");
        }
        for (String s : not) {
            inside("<!ELEMENT d " + s + ">", "<a/>", "4:1");
            inside("<!ELEMENT d " + s + "><!ELEMENT d " + s + ">", "<a/>", "2:1 4:2");
        }
    }

    private static void empty() {
        String d = "<!DOCTYPE a [<!ENTITY e ''><!ENTITY % p ''>%p;<!ELEMENT a EMPTY><!ELEMENT b EMPTY>]>";
        due(d + "<a/>", "");
        due(d + "<a></a>", "");
        String[] filled = {" ", "x", "<!---->", "<?b?>", "<![CDATA[]]>", "&e;", "&#32;", "&lt;", "<b/>"};
        for (String s : filled) {
            due(d + "<a>" + s + "</a>", "6:1");
        }
        due(d + "<a>&x;</a>", "6:1 22:1");
        due(d + "<a><b> </b></a>", "6:2");
        due(d + "<!-- x --><a/><?b?>", "");
    }

    private static void models() {
        String e = "<!ENTITY s ' '><!ENTITY t '&#9;&#13;'><!ENTITY u '&#38;#32;'><!ENTITY v '<b/>'><!ENTITY w 'x'>";
        String d = "<!DOCTYPE a [" + e + "<!ELEMENT b EMPTY><!ELEMENT c EMPTY><!ELEMENT a ";
        String[][] fits = {{"(b)", "<b/>"}, {"(b?)", ""}, {"(b?)", "<b/>"}, {"(b*)", ""}, {"(b*)", "<b/><b/><b/>"}, {"(b+)", "<b/><b/>"}, {"(b,c)", "<b/><c/>"},
            {"(b|c)", "<c/>"}, {"(b|c)*", "<c/><b/><c/>"}, {"(b,c?)+", "<b/><b/><c/><b/>"}, {"((b,c)|c)", "<c/>"}, {"(b,c)?", ""},
            {"(b*)", " \t\n<b/> <!-- x --> <?b?> "}, {"(b*)", "&s;<b/>&t;"}, {"(b,b)", "&v;&s;&v;"}, {"((b)*,(c)*)*", "<c/><b/><c/>"},
            {"((b?|c)+)", ""}, {"((b,c)+|(c,b)*)", "<b/><c/><b/><c/>"}};
        String[][] not = {{"(b)", ""}, {"(b)", "<c/>"}, {"(b)", "<b/><b/>"}, {"(b?)", "<b/><b/>"}, {"(b+)", ""}, {"(b,c)", "<c/><b/>"}, {"(b,c)", "<b/>"},
            {"(b|c)", "<b/><c/>"}, {"(b|c)", ""}, {"(b,c)*", "<b/><c/><b/>"}, {"(b*)", "x"}, {"(b*)", "&#32;"}, {"(b*)", "&u;"}, {"(b*)", "&w;<b/>"},
            {"(b*)", "<![CDATA[]]>"}, {"(b*)", "<![CDATA[ ]]><b/>"}, {"(b*)", "&amp;"}, {"((b,c)+|(c,b)+)", "<b/><c/><c/><b/>"}};
        for (String[] s : fits) {
            due(d + s[0] + ">]><a>" + s[1] + "</a>", "");
        }
        for (String[] s : not) {
            due(d + s[0] + ">]><a>" + s[1] + "</a>", "6:1");
        }
        // models that are not deterministic make rows, too
        due(d + "((b,c)|(b,b))>]><a><b/><b/></a>", "4:1");
        due(d + "((b,c)|(b,b))>]><a><b/><c/></a>", "4:1");
        due(d + "((b|c)*,b,c)>]><a><b/><c/><b/><b/><c/></a>", "4:1");
        due(d + "((b|c)*,b,c)>]><a><b/><c/><b/><b/></a>", "4:1 6:1");
        // the first declaration counts, and what is in an element in it is not in it
        due(d + "(b)><!ELEMENT a ANY>]><a><c/></a>", "2:1 6:1");
        due(d + "(d)><!ELEMENT d ANY>]><a><d>x<![CDATA[x]]><c/></d></a>", "");
        due(d + "(b,d)>]><a><b/><d/></a>", "5:1");
        due(d + "(b*)>]><a><d>x</d></a>", "5:1 6:1");
    }

    private static void mixedAndAny() {
        String d = "<!DOCTYPE a [<!ELEMENT b EMPTY><!ELEMENT c EMPTY><!ELEMENT a ";
        due(d + "(#PCDATA)>]><a>x &lt;<![CDATA[y]]><!----></a>", "");
        due(d + "(#PCDATA)>]><a><b/></a>", "6:1");
        due(d + "(#PCDATA)*>]><a>x<b/></a>", "6:1");
        due(d + "( #PCDATA | b )*>]><a>x<b/>y<b/></a>", "");
        due(d + "(#PCDATA|b)*>]><a>x<b/>y<c/></a>", "6:1");
        due(d + "(#PCDATA|e)*>]><a><e/></a>", "5:1");
        due(d + "ANY>]><a>x<b/><c/><a/></a>", "");
        due(d + "ANY>]><a><e/></a>", "5:1 6:1");
        due(d + "ANY>]><a><a><e/><e/></a></a>", "5:2 6:1");
    }

    private static void attributesInTags() {
        inside("", "<a b=''/>", "7:1");
        inside("<!ATTLIST b b CDATA #IMPLIED>", "<a b='' c='' xmlns=''><b b='' c=''/></a>", "7:4");
        inside("<!ATTLIST a b CDATA #IMPLIED c CDATA 'x'>", "<a b=''/>", "");
        inside("<!ATTLIST a b CDATA #REQUIRED>", "<a b=''/>", "");
        inside("<!ATTLIST a b CDATA #REQUIRED>", "<a/>", "9:1");
        inside("<!ATTLIST a b CDATA #REQUIRED c CDATA #REQUIRED>", "<a><a c=''/><a/><b/></a>", "9:5");
        inside("<!ATTLIST a b CDATA #IMPLIED><!ATTLIST a b CDATA #REQUIRED>", "<a/>", "");
        // an attribute may be declared of an element's name that is not
        due("<!DOCTYPE a [<!ATTLIST a b CDATA #REQUIRED>]><a b=''/>", "5:1");
        due("<!DOCTYPE a [<!ATTLIST a b CDATA #REQUIRED>]><a/>", "5:1 9:1");
    }

    private static void typed(String type, String[] good, String[] bad) {
        for (String s : good) {
            inside("<!ATTLIST a i ID 'x y'><!ATTLIST b t " + type + " #IMPLIED>", "<a><b t='" + s + "'/></a>", "14:1 15:1");
        }
        for (String s : bad) {
            inside("<!ATTLIST a i ID 'x y'><!ATTLIST b t " + type + " #IMPLIED>", "<a><b t='" + s + "'/></a>", "8:1 14:1 15:1");
        }
    }

    private static void types() {
        typed("CDATA", new String[] {"", " ", "&#9;&lt;"}, new String[0]);
        typed("ID", new String[] {"b", " b ", "&#32;:b1-.", "\u00e9"}, new String[] {"", " ", "1", "-b", "b c", "b&#9;", "b,c", "b&#10;c"});
        typed("NMTOKEN", new String[] {"b", "1", "-", ".:\u00b7", " 1\n"}, new String[] {"", "  ", "1 2", "1/2", "&#13;"});
        typed("NMTOKENS", new String[] {"b", "1 2", "  1  -\t.  "}, new String[] {"", " ", "1 /", "1,2", "1&#9;2"});
        typed("(b|1)", new String[] {"b", "1", "  1 "}, new String[] {"", "2", "b 1", "b|1", "B"});
        String n = "<!NOTATION m SYSTEM ''><!NOTATION n SYSTEM ''><!ATTLIST b t NOTATION (m|n) #IMPLIED>";
        inside(n, "<a><b t='m'/><b t=' n'/></a>", "");
        inside(n, "<a><b t='o'/><b t=''/><b t='m n'/></a>", "8:3");
        String r = "<!ATTLIST a i ID #IMPLIED r IDREF #IMPLIED s IDREFS #IMPLIED>";
        inside(r, "<a i='b' r='b' s=' b  b '/>", "");
        inside(r, "<a i='1' r='1'/>", "8:2");
        inside(r, "<a i='1' s='1 1'/>", "8:2");
        inside(r, "<a r=''/>", "8:1");
        inside(r, "<a s=''/>", "8:1");
        inside(r, "<a i='b' r='b b'/>", "8:1");
        // values by default are not in tags
        inside("<!ATTLIST a b NMTOKEN ','>", "<a><a/></a>", "15:1");
    }

    private static void fixed() {
        inside("<!ATTLIST a b CDATA #FIXED 'x'>", "<a/>", "");
        inside("<!ATTLIST a b CDATA #FIXED 'x'>", "<a b='x'/>", "");
        inside("<!ATTLIST a b CDATA #FIXED 'x'>", "<a b='&#x78;'><a b='x '/><a b=''/></a>", "10:2");
        inside("<!ATTLIST a b NMTOKENS #FIXED '  x   y '>", "<a b='x y'><a b=' x&#32;&#32;y'/></a>", "");
        inside("<!ATTLIST a b NMTOKENS #FIXED ' x y '>", "<a b='xy'/>", "10:1");
        inside("<!ATTLIST a b CDATA ' x'>", "<a b='x'/>", "");
    }

    private static void identities() {
        String d = "<!ATTLIST a i ID #IMPLIED r IDREF #IMPLIED s IDREFS #IMPLIED><!ATTLIST b j ID #IMPLIED>";
        inside(d, "<a i='x'><b j='y'/><a i='z'/></a>", "");
        inside(d, "<a i='x'><b j='x'/><a i=' x '/></a>", "11:2");
        inside(d, "<a i=''><b j=''/></a>", "8:2 11:1");
        inside(d, "<a r='x'><b j='x'/></a>", "");
        inside(d, "<a i='x' r='x' s='x x'/>", "");
        inside(d, "<a i='x' r='y'/>", "12:1");
        inside(d, "<a i='x' r='y' s='y  x z'/>", "12:3");
        inside(d, "<a i='x' r='X'/>", "12:1");
        inside(d, "<a i='x y' r='x'/>", "8:1 12:1");
        inside(d, "<a i='x' r='y z'/>", "8:1 12:2");
        inside(d, "<a r='i' xml='i'/>", "7:1 12:1");
        // by default, too
        inside("<!ATTLIST a i ID 'x' r IDREF 'x'>", "<a/>", "14:1");
        inside("<!ATTLIST a i ID 'x'>", "<a><a/><a i='y'/><a/></a>", "11:2 14:1");
        inside("<!ATTLIST a r IDREFS 'x y'><!ATTLIST b i ID #IMPLIED>", "<a><a/><a r='x'/><b i='x'/></a>", "12:2");
        inside("<!ATTLIST a i ID #IMPLIED j ID #IMPLIED>", "<a i='x' j='x'/>", "11:1 13:1");
    }

    private static void declaredIdentities() {
        inside("<!ATTLIST a i ID #IMPLIED><!ATTLIST b i ID #REQUIRED>", "<a/>", "");
        inside("<!ATTLIST a i ID #IMPLIED j ID #IMPLIED><!ATTLIST a k ID #IMPLIED>", "<a/>", "13:2");
        inside("<!ATTLIST a i ID #IMPLIED i ID #IMPLIED>", "<a/>", "");
        inside("<!ATTLIST a i CDATA #IMPLIED i ID 'x' j ID #IMPLIED>", "<a/>", "");
        inside("<!ATTLIST d i ID 'x'><!ATTLIST e i ID #FIXED 'x'>", "<a/>", "14:2");
        inside("<!ATTLIST d i ID 'x' j ID 'x'>", "<a/>", "13:1 14:2");
    }

    private static void declaredValues() {
        inside("<!ATTLIST d b CDATA '' c NMTOKENS ' 1 2 ' e (f|g) ' g' h IDREF 'x' i ENTITIES 'x y'>", "<a/>", "");
        inside("<!ATTLIST d b NMTOKEN '' c NMTOKENS ',' e (f|g) #FIXED 'h' h IDREF '1' i ENTITIES ' ' j IDREFS 'x 1'>", "<a/>", "15:6");
        inside("<!ATTLIST d b CDATA #IMPLIED b NMTOKEN ''>", "<a/>", "");
    }

    private static void notations() {
        inside("<!NOTATION n SYSTEM ''><!ATTLIST d b NOTATION (n|m) #IMPLIED><!NOTATION m PUBLIC ''>", "<a/>", "");
        inside("<!ATTLIST d b NOTATION (n|m) #IMPLIED><!NOTATION m PUBLIC ''>", "<a/>", "16:1");
        inside("<!ATTLIST d b NOTATION (n|m|n) #IMPLIED><!ATTLIST d b NOTATION (o) #IMPLIED>", "<a/>", "16:3 19:1");
        inside("<!NOTATION n SYSTEM ''><!ATTLIST d b NOTATION (n) #IMPLIED c NOTATION (n) #IMPLIED><!ATTLIST d e NOTATION (n) 'n'>", "<a/>", "17:2");
        inside("<!NOTATION n SYSTEM ''><!ATTLIST d b NOTATION (n) #IMPLIED><!ELEMENT d EMPTY>", "<a/>", "18:1");
        inside("<!NOTATION n SYSTEM ''><!ELEMENT d EMPTY><!ATTLIST d b NOTATION (n) #IMPLIED c NOTATION (n) #IMPLIED>", "<a/>", "17:1 18:2");
        inside("<!NOTATION n SYSTEM ''><!ELEMENT d ANY><!ELEMENT d EMPTY><!ATTLIST d b NOTATION (n) #IMPLIED>", "<a/>", "2:1");
        inside("<!ATTLIST d b (x|y|x|1|1|x) #IMPLIED c (x) #IMPLIED><!ATTLIST e b (x|y) #IMPLIED>", "<a/>", "19:3");
        inside("<!ATTLIST d b (x) #IMPLIED b (x|x) #IMPLIED>", "<a/>", "");
        inside("<!NOTATION n SYSTEM ''><!NOTATION n SYSTEM ''><!NOTATION m SYSTEM ''><!NOTATION n PUBLIC ''>", "<a/>", "20:2");
    }

    private static void entityWords() {
        String d = "<!ENTITY x ''><!ATTLIST a e ENTITY #IMPLIED f ENTITIES #IMPLIED>";
        inside(d, "<a/>", "");
        inside(d, "<a e='x'/>", "21:1");
        inside(d, "<a e='x' f=' x  y z'/>", "21:4");
        inside(d, "<a e='x y'/>", "8:1 21:2");
        inside(d, "<a e=''/>", "8:1");
        inside("<!ATTLIST a f ENTITIES 'x y'>", "<a><a/><a f='z'/></a>", "21:5");
        inside("<!ATTLIST d f ENTITIES 'x y'>", "<a/>", "");
    }

    private static void missingEntities() {
        String d = "<!ENTITY % p ''>%p;<!ENTITY e '&x;&x;'>";
        inside(d, "<a/>", "");
        inside(d, "<a>&x;&y;</a>", "22:2");
        inside(d, "<a>&e;&x;&e;</a>", "22:5");
        inside(d + "<!ATTLIST a b CDATA #IMPLIED>", "<a b='&e;&x;'/>", "22:3");
        inside(d + "<!ATTLIST a b CDATA '&x;'><!ATTLIST a b CDATA '&e;'>", "<a><a/><a/></a>", "22:3");
    }
}
