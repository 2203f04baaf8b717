import java.util.Arrays;

/** The edges of what a document means: attributes and values, each constraint none, one and more times, namespaces, canonical bytes. */
public final class EdgeMeaningTest {
    private static final int NONE = MarkupJudge.NONE;
    private static final String XML = "http://www.w3.org/XML/1998/namespace";
    private static final String XMLNS = "http://www.w3.org/2000/xmlns/";

    private EdgeMeaningTest() {
    }

    public static void main(String[] args) {
        attributesByDefault();
        spacesTakenOff();
        noDeclaration();
        eachConstraintSoManyTimes();
        constraintsOfTags();
        constraintsOfDeclarations();
        empty();
        spacesInModels();
        rowsOfModels();
        mixedAndAny();
        wordsOfTypes();
        valuesOfTypes();
        listsOfTypes();
        firstOnesCount();
        eachSpaceSoManyTimes();
        qnames();
        whatPrefixesMean();
        declarationsOfNamespaces();
        canonicalCharacters();
        instructionsAround();
        orders();
        declarationsWritten();
        Check.finish();
    }

    private static void attributesByDefault() {
        Check.says("THE ATTRIBUTES OF AN ELEMENT are those of its tag, in order, then by default those declared for its name with a value, in order, that are not in the tag.");
        String d = "<!DOCTYPE a [<!ATTLIST a r CDATA #REQUIRED i CDATA #IMPLIED e CDATA '' f CDATA #FIXED '1' g CDATA '2'><!ATTLIST b g CDATA '3'>]>";
        String[] tags = {"<a/>", "<a g='x'/>", "<a f='x' e='y'/>", "<a g='1' f='2' e='3'/>", "<a i='' r=''/>", "<a g='1' f='2' e='3' i='4' r='5' z='6'/>", "<b/>", "<b e=''/>", "<c/>"};
        String[] want = {"e= f=1 g=2 ", "g=x e= f=1 ", "f=x e=y g=2 ", "g=1 f=2 e=3 ", "i= r= e= f=1 g=2 ", "g=1 f=2 e=3 i=4 r=5 z=6 ", "g=3 ", "e= g=3 ", ""};
        for (int i = 0; i < tags.length; i++) {
            MarkupJudge x = Check.formed(d + tags[i]);
            StringBuilder told = new StringBuilder();
            for (int a = 0; a < x.attributes(0); a++) {
                told.append(Check.part(x, 0, a, 0)).append('=').append(Check.part(x, 0, a, 1)).append(' ');
            }
            Check.due(tags[i], told.toString(), want[i]);
        }
    }

    private static void spacesTakenOff() {
        Check.says("Its VALUE is the value as written; if the type is another one than CDATA, with each 32 at its begin, at its end and behind another 32 taken off.");
        String[] types = {"CDATA", "ID", "IDREF", "IDREFS", "ENTITY", "ENTITIES", "NMTOKEN", "NMTOKENS", "NOTATION (n)", "(n)"};
        String[] written = {"", " ", "  ", "x", " x", "x ", " x ", "  x", "x  ", "x y", "x  y", "x   y", " x y ", "  x  y  ", "&#32;x&#32;", "\t\n", "\tx\ny\r", "&#9;x&#10;", " &#9; ", "x &#32; y"};
        String[] plain = {"", " ", "  ", "x", " x", "x ", " x ", "  x", "x  ", "x y", "x  y", "x   y", " x y ", "  x  y  ", " x ", "  ", " x y ", "\tx\n", " \t ", "x   y"};
        String[] taken = {"", "", "", "x", "x", "x", "x", "x", "x", "x y", "x y", "x y", "x y", "x y", "x", "", "x y", "\tx\n", "\t", "x y"};
        for (String type : types) {
            for (int i = 0; i < written.length; i++) {
                String want = type.equals("CDATA") ? plain[i] : taken[i];
                MarkupJudge x = Check.formed("<!DOCTYPE a [<!ATTLIST a v " + type + " #IMPLIED>]><a v='" + written[i] + "'/>");
                Check.due(type + " [" + written[i] + "]", Check.part(x, 0, 0, 1), want);
                x = Check.formed("<!DOCTYPE a [<!ATTLIST a v " + type + " '" + written[i] + "'>]><a/>");
                Check.due(type + " by default [" + written[i] + "]", Check.part(x, 0, 0, 1), want);
            }
        }
        // nothing is left, and a 32 stands before or behind it elsewhere
        String f = "<!DOCTYPE a [<!ATTLIST a v NMTOKEN #FIXED '' w NMTOKENS #FIXED '  ' x CDATA ' '>]>";
        String[] tags = {"<a v=''/> ", "<a v=' ' w=''/> ", "<a x=' ' v='' w=' '/> ", "<a/> "};
        for (String s : tags) {
            MarkupJudge x = Check.formed(f + s);
            Check.due(s, x.violations(10), 0);
            Check.due(s, Check.part(x, 0, 0, 1), s.startsWith("<a x") ? " " : "");
            Check.due(s, Check.part(x, 0, 1, 1), "");
        }
        Check.due("behind it", Check.part(Check.formed(f + "<a v='' y='xyz'/> "), 0, 1, 1), "xyz");
        Check.due("behind it", Check.part(Check.formed(f + "<a y='x ' v='  ' z='yz'/> "), 0, 2, 1), "yz");
        Check.says("An attribute's TYPE is as declared, CDATA otherwise.");
        Check.due("not declared", Check.part(Check.formed("<!DOCTYPE a [<!ATTLIST b v ID #IMPLIED>]><a v=' x '/>"), 0, 0, 1), " x ");
        Check.due("no declaration", Check.part(Check.formed("<a v=' x '/>"), 0, 0, 1), " x ");
    }

    private static void noDeclaration() {
        Check.says("for 0 the others are none.", "0 there is no declaration (1, then).");
        String[] without = {"<a/>", "<a b=''><c/>x</a>", "<?p?><a/>", "<?xml version='1.0'?><!--<!DOCTYPE a>--><a/>"};
        for (String s : without) {
            Check.due(s, Check.violations(Check.formed(s)), "0:1");
        }
        Check.due("with one", Check.violations(Check.formed("<!DOCTYPE a><a/>")), "5:1");
        Check.due("with one", Check.violations(Check.formed("<!DOCTYPE a []><a/>")), "5:1");
        Check.due("with one", Check.violations(Check.formed("<!DOCTYPE a [<!ELEMENT a ANY>]><a/>")), "");
        Check.says("1 the root's name is not that of the declaration.");
        String[] names = {"a", "b", "aa", "A", "a:a", ":a"};
        for (String s : names) {
            MarkupJudge x = Check.formed("<!DOCTYPE " + s + " [<!ELEMENT a ANY>]><a><a/></a>");
            Check.due("root of " + s, Check.violations(x), s.equals("a") ? "" : "1:1");
        }
    }

    /** The root a is mixed and declared, c is empty; just this constraint, so many times. */
    private static void times(int k, int n, String declarations, String root) {
        String d = "<!DOCTYPE a [<!ELEMENT a (#PCDATA|a|b|c|z)*><!ELEMENT b ANY><!ELEMENT c EMPTY><!ENTITY % p ''>%p;" + declarations + "]>";
        MarkupJudge x = new MarkupJudge(0, 0);
        String text = d + "<a>" + root + "</a>";
        Check.due(text, Check.judge(x, text), n == 0 ? 0 : 1);
        Check.due(text, Check.violations(x), n == 0 ? "" : k + ":" + n);
    }

    private static void eachConstraintSoManyTimes() {
        Check.says("How many violations of constraint k (0 .. 22) the document at hand has");
        for (int n = 0; n < 4; n++) {
            times(2, n, "<!ELEMENT z ANY>".repeat(n + 1), "");
            times(2, n, "<!ELEMENT a EMPTY>".repeat(n), "<b/>");
            times(3, n, "<!ELEMENT z (#PCDATA" + "|b".repeat(n + 1) + ")*>", "");
            times(5, n, "", "<z/>".repeat(n));
            times(6, n, "", "<c>x</c>".repeat(n));
            times(12, n, "<!ATTLIST b r IDREF #IMPLIED>", "<b r='q'/>".repeat(n));
            times(12, n, "<!ATTLIST b r IDREFS #IMPLIED i ID #IMPLIED>", "<b i='x' r='x " + "q ".repeat(n) + "x'/>");
            times(19, n, "<!ATTLIST b b (x" + "|x".repeat(n) + ") #IMPLIED>", "");
            times(20, n, "<!NOTATION n SYSTEM ''>".repeat(n + 1), "");
            times(21, n, "<!ATTLIST b e ENTITY #IMPLIED>", "<b e='x'/>".repeat(n));
            times(22, n, "", "&x;".repeat(n));
            times(22, n, "<!ATTLIST b c CDATA '" + "&x;".repeat(n) + "'>", "<b/><b/>");
            times(22, n, "<!ATTLIST b c CDATA #IMPLIED><!ENTITY e '&x;'>", "<b c='" + "&e;".repeat(n) + "'/>");
        }
        times(21, 2, "<!ATTLIST b e ENTITIES #IMPLIED>", "<b e=' x  y '/>");
    }

    private static void constraintsOfTags() {
        Check.says("7 attributes in tags that are not declared. 8 declared ones in tags whose value is not such as its TYPE wants",
            "9 declared as #REQUIRED and not in a tag of that element. 10 in tags, declared as #FIXED with another VALUE", "11 values of attributes of type ID, of elements in order, that one before had.");
        for (int n = 0; n < 4; n++) {
            StringBuilder attributes = new StringBuilder();
            StringBuilder required = new StringBuilder("<!ATTLIST b");
            for (int i = 0; i < n; i++) {
                attributes.append(" n").append(i).append("=''");
                required.append(" n").append(i).append(" CDATA #REQUIRED");
            }
            times(7, n, "", "<b" + attributes + "/>");
            times(7, n, "<!ATTLIST c b CDATA #IMPLIED>", "<b b=''/>".repeat(n) + "<c b=''/>");
            times(8, n, "<!ATTLIST b t NMTOKEN #IMPLIED>", "<b t='/'/>".repeat(n) + "<b/><b t='1'/>");
            times(9, n, "<!ATTLIST b t CDATA #REQUIRED>", "<b/>".repeat(n) + "<b t=''/>");
            times(9, n, required + ">", "<b/>");
            times(10, n, "<!ATTLIST b t CDATA #FIXED 'x'>", "<b t='y'/>".repeat(n) + "<b t='x'/><b/>");
            times(11, n, "<!ATTLIST b i ID #IMPLIED>", "<b i='x'/>".repeat(n + 1) + "<b i='y'/>");
        }
    }

    private static void constraintsOfDeclarations() {
        Check.says("13 attributes declared of type ID for an element's name that has one before. 14 attributes declared of type ID with a default value. "
            + "15 values declared that are not as their type wants. 16 names listed for type NOTATION that are not declared as notations, before or behind. "
            + "17 attributes declared of type NOTATION for an element's name that has one before. 18 attributes declared of type NOTATION for an element's name that is declared as EMPTY, before or behind.");
        String n0 = "<!NOTATION n SYSTEM ''>";
        for (int n = 0; n < 4; n++) {
            StringBuilder identities = new StringBuilder("<!ATTLIST b");
            StringBuilder notations = new StringBuilder("<!ATTLIST b");
            StringBuilder models = new StringBuilder();
            StringBuilder valued = new StringBuilder();
            StringBuilder wrong = new StringBuilder("<!ATTLIST b");
            StringBuilder listed = new StringBuilder("<!ATTLIST b b NOTATION (n");
            StringBuilder empty = new StringBuilder();
            for (int i = 0; i <= n; i++) {
                identities.append(" i").append(i).append(" ID #IMPLIED");
                notations.append(" i").append(i).append(" NOTATION (n) #IMPLIED");
                if (i < n) {
                    models.append("<!ELEMENT y").append(i).append(" (b|b)>");
                    valued.append("<!ATTLIST y").append(i).append(" i ID 'x'>");
                    wrong.append(" i").append(i).append(" NMTOKEN ''");
                    listed.append("|m").append(i);
                    empty.append("<!ELEMENT y").append(i).append(" EMPTY><!ATTLIST y").append(i).append(" b NOTATION (n) #IMPLIED>");
                }
            }
            times(4, n, models.toString(), "");
            times(13, n, identities + ">", "");
            times(14, n, valued.toString(), "");
            times(15, n, wrong + ">", "");
            times(16, n, n0 + listed + ") #IMPLIED>", "");
            times(16, n, listed + ") #IMPLIED>" + n0, "");
            times(17, n, n0 + notations + ">", "");
            times(18, n, n0 + empty, "");
        }
    }

    private static void empty() {
        Check.says("EMPTY: nothing at all is in it, no comment, no instruction, no empty section, no reference");
        String e = "<!ENTITY e ''><!ENTITY f '<!---->'>";
        String[] filled = {" ", "\n", "x", "<!---->", "<?p?>", "<![CDATA[]]>", "<![CDATA[x]]>", "&e;", "&f;", "&#32;", "&lt;", "<b/>"};
        times(6, 0, e, "<c/>");
        times(6, 0, e, "<c></c>");
        times(6, 0, e, "<c ></c >");
        for (String s : filled) {
            times(6, 1, e, "<c>" + s + "</c><c/>");
        }
        // what is beside it, and what its parent is in, is not in it
        times(6, 0, e, " <c/> <!----><c/>&e;<c></c>x");
    }

    private static void spacesInModels() {
        Check.says("a model: all characters in it are SPACES that stand so in the text or an entity's text (not by references to characters), there is no section");
        String e = "<!ENTITY s ' '><!ENTITY r '&#13;&#9;&#10;'><!ENTITY t '&#38;#32;'><!ENTITY u '&#38;#13;'><!ENTITY v '<![CDATA[]]>'><!ENTITY w ''><!ENTITY x '\u00a0'>";
        String d = e + "<!ELEMENT z (c*)>";
        String[] good = {"", " ", "\t", "\n", "\r", "\r\n", " <c/> ", "&s;", "&r;<c/>&s;", "&w;", "<!--x-->", "<?p?> ", "&missing;"};
        String[] bad = {"x", "&#32;", "&#9;", "&#10;", "&#13;", "&t;", "&u;", "&v;", "<![CDATA[]]>", "<![CDATA[ ]]>", "&lt;", "\u00a0", "&x;", " x", "\u2028", "<c/>&#x20;"};
        for (String s : good) {
            if (s.equals("&missing;")) {
                times(22, 1, d, "<z>" + s + "</z>");
            } else {
                times(6, 0, d, "<z>" + s + "</z>");
            }
        }
        for (String s : bad) {
            times(6, 1, d, "<z>" + s + "</z>");
        }
        // what is in an element in it is not in it
        times(6, 0, d.replace("(c*)", "(b)"), "<z><b>x<![CDATA[]]>&#32;</b></z>");
    }

    private static void rowsOfModels() {
        Check.says("the names of the elements in it, in order, are a row that the model makes");
        String[] often = {"", "?", "*", "+"};
        for (int k = 0; k < often.length; k++) {
            for (int n = 0; n < 4; n++) {
                boolean good = n == 1 || n == 0 && (k == 1 || k == 2) || n > 1 && k >= 2;
                String row = "<c/>".repeat(n);
                row(("(c" + often[k] + ")"), row, good);
                row(("(c)" + often[k]), row, good);
                row(("((c" + often[k] + "))"), row, good);
                row(("(c" + often[k] + ",b)"), row + "<b/>", good);
                row(("(b,c" + often[k] + ")"), "<b/>" + row, good);
                row(("(b|c" + often[k] + ")"), row, good);
                row(("(b|c" + often[k] + ")"), row + "<b/>", n == 0);
                row(("(b,(c)" + often[k] + ",b)"), "<b/>" + row + "<b/>", good);
            }
        }
        String entity = "<!DOCTYPE a [<!ENTITY % q '<!ELEMENT a (b,c?)><!ELEMENT b EMPTY><!ELEMENT c EMPTY>'>%q;]>";
        Check.due("in an entity's text", Check.violations(Check.formed(entity + "<a><b/><c/></a>")), "");
        Check.due("in an entity's text", Check.violations(Check.formed(entity + "<a><b/></a>")), "");
        Check.due("in an entity's text", Check.violations(Check.formed(entity + "<a><c/></a>")), "6:1");
        Check.due("in an entity's text", Check.formed(entity.replace("(b,c?)", "(b?,b)") + "<a/>").violations(4), 1);
        String[] orders = {"<b/><c/>", "<c/><b/>", "<b/>", "<c/>", "", "<b/><c/><b/>", "<b/><b/>"};
        boolean[] both = {true, false, false, false, false, false, false};
        boolean[] one = {false, false, true, true, false, false, false};
        for (int i = 0; i < orders.length; i++) {
            row("(b,c)", orders[i], both[i]);
            row("(b|c)", orders[i], one[i]);
        }
    }

    private static void row(String model, String row, boolean good) {
        times(6, good ? 0 : 1, "<!ELEMENT z " + model + ">", "<z>" + row + "</z>");
    }

    private static void mixedAndAny() {
        Check.says("mixed: elements in it have names of the group; ANY: have declared names.");
        String all = "x&lt;<![CDATA[x]]><!----><?p?>&#32;";
        times(6, 0, "<!ELEMENT z (#PCDATA)>", "<z>" + all + "</z><z/>");
        times(6, 1, "<!ELEMENT z (#PCDATA)>", "<z><c/></z>");
        times(6, 1, "<!ELEMENT z (#PCDATA)*>", "<z><c/><c/></z>");
        times(6, 0, "<!ELEMENT z (#PCDATA|b|c)*>", "<z>" + all + "<c/><b/><c/></z><z/>");
        times(6, 1, "<!ELEMENT z (#PCDATA|b)*>", "<z><b/><c/></z>");
        times(6, 0, "<!ELEMENT z (#PCDATA|b)*>", "<z><b><c/></b></z>");
        String[] groups = {"(#PCDATA|b|c)*", "( #PCDATA|b|c)*", "(#PCDATA |b|c)*", "(#PCDATA| b|c)*", "(#PCDATA|b |c)*", "(#PCDATA|b| c)*", "(#PCDATA|b|c )*", "(\n#PCDATA\n\n|\n\nb  |c\t)*",
            "(#PCDATA|bb|b|c)*", "(#PCDATA|c|bb|b)*"};
        for (String s : groups) {
            times(6, 0, "<!ELEMENT z " + s + ">", "<z>x<b/><c/></z>");
            times(6, 1, "<!ELEMENT z " + s + ">", "<z>x<b/><a/></z>");
            times(6, 0, "<!ENTITY % q '<!ELEMENT z " + s + ">'>%q;", "<z>x<b/><c/></z>");
            times(6, 1, "<!ENTITY % q '<!ELEMENT z " + s + ">'>%q;", "<z>x<b/><a/></z>");
        }
        times(3, 1, "<!ENTITY % q '<!ELEMENT z (#PCDATA|b|b)*>'>%q;", "<z><b/></z>");
        times(6, 0, "<!ELEMENT z ANY>", "<z>" + all + "<c/><b/><a/><z/></z>");
        MarkupJudge x = Check.formed("<!DOCTYPE a [<!ELEMENT a ANY><!ELEMENT b (#PCDATA|y)*>]><a><b><y/></b></a>");
        Check.due("in the group and not declared", Check.violations(x), "5:1");
        x = Check.formed("<!DOCTYPE a [<!ELEMENT a ANY>]><a><y/></a>");
        Check.due("in ANY and not declared", Check.violations(x), "5:1 6:1");
    }

    private static void wordsOfTypes() {
        Check.says("ID, IDREF, ENTITY a name; IDREFS, ENTITIES names with one 32 between; NMTOKEN a token; NMTOKENS tokens with one 32 between; the others one of those listed.");
        String[] values = {"", " ", "x", "x y", " x  y  z ", "1", "x 1", "1 x", "x&#9;y", "x,y", "-", ".x", ":", "x&#10;", "x\u00a0y"};
        boolean[] name = {false, false, true, false, false, false, false, false, false, false, false, false, true, false, false};
        boolean[] names = {false, false, true, true, true, false, false, false, false, false, false, false, true, false, false};
        boolean[] token = {false, false, true, false, false, true, false, false, false, false, true, true, true, false, false};
        boolean[] tokens = {false, false, true, true, true, true, true, true, false, false, true, true, true, false, false};
        boolean[] listed = {false, false, true, false, false, true, false, false, false, false, false, false, false, false, false};
        boolean[] all = new boolean[values.length];
        Arrays.fill(all, true);
        String[] types = {"CDATA", "ID", "IDREF", "ENTITY", "IDREFS", "ENTITIES", "NMTOKEN", "NMTOKENS", "(1|x)"};
        boolean[][] good = {all, name, name, name, names, names, token, tokens, listed};
        for (int t = 0; t < types.length; t++) {
            for (int i = 0; i < values.length; i++) {
                MarkupJudge x = Check.formed("<!DOCTYPE a [<!ATTLIST a t " + types[t] + " #IMPLIED>]><a t='" + values[i] + "'/>");
                Check.due("8, " + types[t] + " [" + values[i] + "]", x.violations(8), good[t][i] ? 0 : 1);
                x = Check.formed("<!DOCTYPE a [<!ATTLIST a t " + types[t] + " '" + values[i] + "'>]><a/>");
                Check.due("15, " + types[t] + " [" + values[i] + "]", x.violations(15), good[t][i] ? 0 : 1);
                Check.due("8 is of tags", x.violations(8), 0);
            }
        }
        Check.says("12 words (parted by 32) of values of type IDREF, IDREFS", "21 words of values of type ENTITY, ENTITIES of attributes of elements.");
        int[] words = {0, 0, 1, 2, 3, 1, 2, 2, 1, 1, 1, 1, 1, 1, 1};
        for (int t = 2; t < 6; t++) {
            for (int i = 0; i < values.length; i++) {
                int k = types[t].startsWith("ID") ? 12 : 21;
                MarkupJudge x = Check.formed("<!DOCTYPE a [<!ATTLIST a t " + types[t] + " #IMPLIED>]><a t='" + values[i] + "'/>");
                Check.due(k + ", " + types[t] + " [" + values[i] + "]", x.violations(k), words[i]);
                x = Check.formed("<!DOCTYPE a [<!ATTLIST a t " + types[t] + " '" + values[i] + "'>]><a><a/></a>");
                Check.due(k + " by default, " + types[t] + " [" + values[i] + "]", x.violations(k), 2 * words[i]);
                x = Check.formed("<!DOCTYPE a [<!ATTLIST a t " + types[t] + " '" + values[i] + "'>]><a/>");
                Check.due(k + " by default once, " + types[t] + " [" + values[i] + "]", x.violations(k), words[i]);
                x = Check.formed("<!DOCTYPE a [<!ATTLIST b t " + types[t] + " '" + values[i] + "'>]><a/>");
                Check.due(k + " of no element, " + types[t] + " [" + values[i] + "]", x.violations(k), 0);
            }
        }
    }

    private static void valuesOfTypes() {
        Check.says("ID, IDREF, ENTITY a name", "NMTOKEN a token");
        String d = "<!DOCTYPE a [<!ATTLIST a i ID #IMPLIED t NMTOKEN #IMPLIED>]>";
        int[][] rows = {EdgeWordsTest.STARTS, EdgeWordsTest.OTHERS, EdgeWordsTest.NEITHER};
        for (int r = 0; r < 3; r++) {
            for (int c : rows[r]) {
                String s = Check.text(c);
                Check.due("a name " + c, Check.formed(d + "<a i='" + s + "'/>").violations(8), r > 0 ? 1 : 0);
                Check.due("in a name " + c, Check.formed(d + "<a i='x" + s + "'/>").violations(8), r > 1 ? 1 : 0);
                Check.due("a token " + c, Check.formed(d + "<a t='" + s + "'/>").violations(8), r > 1 ? 1 : 0);
            }
        }
    }

    private static void listsOfTypes() {
        Check.says("the others one of those listed");
        String d = "<!NOTATION n SYSTEM ''><!NOTATION m SYSTEM ''><!NOTATION o SYSTEM ''>"
            + "<!ATTLIST b x (1|2) #IMPLIED y (3|4|5) #IMPLIED x (9) #IMPLIED z NOTATION (n|m) #IMPLIED w (6) #IMPLIED><!ATTLIST c x (7|8) #IMPLIED z NOTATION (o) #IMPLIED>";
        // constraint 18 is of c, which is EMPTY
        String[] good = {"<b x='1'/><b x='2'/>", "<b y='3'/><b y='4'/><b y='5'/>", "<b z='n'/><b z='m'/>", "<b w='6'/>", "<c x='7'/><c x='8'/>", "<c z='o'/>", "<b x='2' y='5' z='m' w='6'/>"};
        for (String s : good) {
            times(18, 1, d, s);
        }
        String[] bad = {"<b x='3'/>", "<b x='9'/>", "<b x='12'/>", "<b y='2'/>", "<b y='6'/>", "<b y='n'/>", "<b z='5'/>", "<b z='o'/>", "<b w='5'/>", "<b w='7'/>", "<c x='1'/>", "<c x='6'/>",
            "<c z='n'/>", "<b x=''/>"};
        for (String s : bad) {
            MarkupJudge x = Check.formed("<!DOCTYPE a [<!ELEMENT a ANY><!ELEMENT b ANY><!ELEMENT c EMPTY>" + d + "]><a>" + s + "</a>");
            Check.due(s, Check.violations(x), "8:1 18:1");
        }
        // a list of one document has nothing of the lists of those before
        MarkupJudge x = new MarkupJudge(80, 16);
        for (int i = 0; i < 7; i++) {
            Check.judge(x, "<!DOCTYPE a [<!ATTLIST a b (A|B|C|D|E|F|G|H|I|" + i + ") '" + i + "'>]><a b='" + i + "'/>");
            Check.due("list " + i, Check.violations(x), "5:1");
            Check.judge(x, "<!DOCTYPE a [<!ATTLIST a b (A|B|C|D|E|F|G|H|I|" + i + ") 'Z'>]><a b='Y'/>");
            Check.due("list " + i, Check.violations(x), "5:1 8:1 15:1");
        }
    }

    private static void firstOnesCount() {
        Check.says("(Of attribute declarations in 13 to 19 the first ones for their names alone count.)");
        String n = "<!NOTATION n SYSTEM ''>";
        times(0, 0, n + "<!ATTLIST c b CDATA #IMPLIED><!ATTLIST c b NOTATION (m|m) 'q'><!ATTLIST c b ID '1' b NOTATION (n) #IMPLIED b (x|x) 'y'>", "<c/>");
        times(13, 1, "<!ATTLIST c b ID #IMPLIED b CDATA #IMPLIED e ID #IMPLIED>", "<c/>");
        times(0, 0, "<!ATTLIST c b ID #IMPLIED><!ATTLIST b b ID #IMPLIED>", "");
        Check.says("(First declarations count; in it is what is in it directly, not in an element in it.)");
        times(2, 1, "<!ELEMENT z EMPTY><!ELEMENT z ANY>", "<z/>");
        MarkupJudge x = Check.formed("<!DOCTYPE a [<!ELEMENT a EMPTY><!ELEMENT a ANY>]><a>x</a>");
        Check.due("the first one is EMPTY", Check.violations(x), "2:1 6:1");
        x = Check.formed("<!DOCTYPE a [<!ELEMENT a ANY><!ELEMENT a EMPTY>]><a>x</a>");
        Check.due("the first one is ANY", Check.violations(x), "2:1");
        Check.says("10 in tags, declared as #FIXED with another VALUE (of that, too, 32s are taken off as its type wants).");
        times(10, 0, "<!ATTLIST b t NMTOKENS #FIXED ' 1  2 '>", "<b t='1 2'/><b t='  1 2'/><b/>");
        times(10, 1, "<!ATTLIST b t NMTOKENS #FIXED ' 1  2 '>", "<b t='1 2 2'/>");
        times(10, 1, "<!ATTLIST b t CDATA #FIXED ' 1'>", "<b t='1'/><b t=' 1'/>");
        times(10, 1, "<!ATTLIST b t CDATA #FIXED ''>", "<b t=' '/><b t=''/>");
        times(10, 0, "<!ATTLIST b t CDATA #FIXED 'x'><!ATTLIST b t CDATA #FIXED 'y'>", "<b t='x'/>");
    }

    private static void space(int k, int n, String text) {
        Check.due(text, Check.spaces(Check.formed(text)), n == 0 ? "" : k + ":" + n);
    }

    private static void eachSpaceSoManyTimes() {
        Check.says("How many violations k (0 .. 5) of namespaces it has");
        for (int n = 0; n < 4; n++) {
            StringBuilder same = new StringBuilder("<a xmlns:p='u:1' p:b=''");
            StringBuilder many = new StringBuilder("<a");
            for (int i = 0; i < n; i++) {
                same.append(" xmlns:p").append(i).append("='u:1' p").append(i).append(":b=''");
                many.append(" xmlns:p").append(i).append("=''");
            }
            space(0, n, "<a>" + "<b:/>".repeat(n) + "</a>");
            space(0, n, "<a>" + "<b :=''/>".repeat(n) + "</a>");
            space(1, n, "<a>" + "<p:b/>".repeat(n) + "</a>");
            space(1, n, "<a>" + "<b p:c=''/>".repeat(n) + "</a>");
            space(2, n, same + "/>");
            space(3, n, many + "/>");
            space(4, n, "<a>" + "<xmlns:b/>".repeat(n) + "</a>");
            space(5, n, "<?p:q?>".repeat(n) + "<a/>");
            space(5, n, "<a>" + "<?:?>".repeat(n) + "</a>");
            space(5, n, "<a/>" + "<?p: x?>".repeat(n));
            space(5, n, "<!DOCTYPE a:b [" + "<?p:?>".repeat(n) + "]><a/>");
            space(5, n, "<!DOCTYPE a [" + "<!ENTITY p:q ''>".repeat(n) + "]><a/>");
            space(5, n, "<!DOCTYPE a [" + "<!ENTITY % p:q ''>".repeat(n) + "]><a/>");
            space(5, n, "<!DOCTYPE a [" + "<!NOTATION p:q SYSTEM ''>".repeat(n) + "]><a/>");
            space(5, n, "<!DOCTYPE a [<!ENTITY % p '<!ENTITY a:b \"\">'>" + "%p;".repeat(n) + "]><a/>");
            space(5, n, "<!DOCTYPE a [<!ENTITY e '<?a:b?>'>]><a>" + "&e;".repeat(n) + "</a>");
        }
    }

    private static void qnames() {
        Check.says("A QNAME is a name with no colon, or with one, before and behind which is something, with a name start behind it.");
        String[] good = {"x", "p:x", "p:_", "pp:xx", "p:x-", "p-1:x", "_:x"};
        String[] bad = {":", "p:", ":x", "::", "p::x", ":p:x", "p:x:", "p:x:y", "p:-", "p:.", "p:1", "p:1x", "p:\u00b7"};
        String d = "<a xmlns:p='u:1' xmlns:pp='u:2' xmlns:p-1='u:3' xmlns:_='u:4'>";
        for (String s : good) {
            space(0, 0, d + "<" + s + "/></a>");
            space(0, 0, d + "<b " + s + "=''/></a>");
        }
        for (String s : bad) {
            space(0, 1, d + "<" + s + "/></a>");
            space(0, 1, d + "<b " + s + "=''/></a>");
        }
        for (int c : EdgeWordsTest.STARTS) {
            space(0, c == ':' ? 1 : 0, d + "<p:" + Check.text(c) + "/></a>");
        }
        for (int c : EdgeWordsTest.OTHERS) {
            space(0, 1, d + "<p:" + Check.text(c) + "/></a>");
            space(0, 0, d + "<p:x" + Check.text(c) + "/></a>");
        }
        Check.says("of what is no qname nothing is a prefix, all is local");
        space(0, 2, "<p:a:b q::c=''/>");
        space(0, 1, "<a xmlns:='u:1'/>");
        space(0, 1, "<a xmlns:p:q=''/>");
        space(0, 1, "<a xmlns:1=''/>");
        space(0, 1, "<xmlns:/>");
    }

    private static void whatPrefixesMean() {
        Check.says("for the names in their element, and for all in it, no prefix, or the prefix that is their local name, means their value (nothing, if it is empty)");
        space(1, 0, "<p:a xmlns:p='u:1'/>");
        space(1, 0, "<a xmlns:p='u:1'><b><p:c/></b></a>");
        space(1, 1, "<a><b xmlns:p='u:1'/><p:c/></a>");
        space(1, 1, "<p:a><b xmlns:p='u:1'/></p:a>");
        space(1, 1, "<a xmlns:p='u:1'><b/><q:c/></a>");
        space(1, 0, "<a xmlns:p='u:1'><b xmlns:p='u:2'><p:c/></b><p:d/></a>");
        Check.due("empty", Check.spaces(Check.formed("<a xmlns:p='u:1'><b xmlns:p=''><p:c/></b><p:d/></a>")), "1:1 3:1");
        Check.says("xml means http://www.w3.org/XML/1998/namespace always, xmlns nothing. No prefix means nothing for attributes.");
        space(1, 0, "<xml:a xml:b=''/>");
        space(1, 1, "<xMl:a/>");
        space(2, 0, "<a xmlns='u:1' xmlns:p='u:1' b='' p:b=''/>");
        space(2, 0, "<a xmlns:p='u:1' xmlns:q='u:1' p:b='' q:c=''/>");
        space(2, 0, "<a xmlns:p='u:1' xmlns:q='u:2' p:b='' q:b=''/>");
        space(2, 1, "<a xmlns:p='u:1' xmlns:q='u:1' p:b='' q:b=''/>");
        space(2, 0, "<a xmlns:p='u:1' xmlns:q='u:1' p:b=''><c q:b=''/></a>");
        space(2, 1, "<a xmlns:p='u:1'><c p:b='' xmlns:q='u:1' q:b=''/></a>");
        space(2, 0, "<a xmlns:p='u:1'><c xmlns:p='u:2' p:b='' xmlns:q='u:1' q:b=''/></a>");
        space(2, 0, "<a xmlns:p='u:1' p:p='' p:xmlns=''/>");
    }

    private static void declarationsOfNamespaces() {
        Check.says("3 declarations that are one of these: of prefix xmlns; of xml as something else; of another prefix, or none, as what xml means; "
            + "of any as http://www.w3.org/2000/xmlns/; of a prefix as nothing (an empty value).");
        String[] values = {"u:1", XML, XMLNS, "", XML + "/", XMLNS + "x", XML.substring(1), " " + XML, XML.toUpperCase(), "http://www.w3.org/2000/xmlns"};
        int[] none = {0, 1, 1, 0, 0, 0, 0, 0, 0, 0};
        int[] prefix = {0, 1, 1, 1, 0, 0, 0, 0, 0, 0};
        int[] xml = {1, 0, 1, 1, 1, 1, 1, 1, 1, 1};
        for (int i = 0; i < values.length; i++) {
            space(3, none[i], "<a xmlns='" + values[i] + "'/>");
            space(3, prefix[i], "<a xmlns:p='" + values[i] + "'/>");
            space(3, prefix[i], "<a xmlns:xmlnsx='" + values[i] + "'/>");
            space(3, prefix[i], "<a xmlns:xmlx='" + values[i] + "'/>");
            space(3, xml[i], "<a xmlns:xml='" + values[i] + "'/>");
            space(3, 1, "<a xmlns:xmlns='" + values[i] + "'/>");
            // as its type has the value
            String d = "<!DOCTYPE a [<!ATTLIST a xmlns NMTOKEN #IMPLIED>]>";
            space(3, i == 7 ? 1 : none[i], d + "<a xmlns='" + values[i] + "'/>");
        }
    }

    private static void written(String text, String want) {
        MarkupJudge x = Check.formed(text);
        int n = Check.utf8(want).length;
        Check.due(text, Check.canonical(x), want);
        Check.due(text + " out", x.out(n), NONE);
        Check.due(text + " back", x.back(), n);
        Check.due(text + " judge", x.judge(), 1);
        Check.due(text + " again", x.canonical(), n);
        Check.due(text + " the last byte", x.out(n - 1), '>');
    }

    private static void canonicalCharacters() {
        Check.says("In values & < \" 9 10 13 are &amp; &lt; &quot; &#x9; &#xA; &#xD; and in other characters & < > 13 are &amp; &lt; &gt; &#xD;.");
        int[] more = {9, 10, 13, 127, 128, 133, 160, 255, 256, 2047, 2048, 8232, 55295, 57344, 65533, 65536, 1114111};
        for (int c = 32; c < 127; c++) {
            character(c);
        }
        for (int c : more) {
            character(c);
        }
        Check.says("each 13 in it as &#xD;, which is no reference there");
        String d = "<!DOCTYPE a [<!ENTITY e '<?p ~?>'>]><a>&e;</a>";
        written(d.replace("~", "x&#13;"), "<a><?p x&#xD;?></a>");
        written(d.replace("~", "&#13;x"), "<a><?p x?></a>");
        written(d.replace("~", "x&#13;&#13;y"), "<a><?p x&#xD;&#xD;y?></a>");
        written(d.replace("~", "&#13;"), "<a><?p?></a>");
        written("<a><?p &#xD; &amp; < > \" \t\n&?></a>", "<a><?p &#xD; &amp; < > \" \t\n&?></a>");
    }

    private static void character(int c) {
        String in = c == '&' ? "&amp;" : c == '<' ? "&lt;" : c == '>' ? "&gt;" : c == 13 ? "&#xD;" : Check.text(c);
        String value = c == '&' ? "&amp;" : c == '<' ? "&lt;" : c == '"' ? "&quot;" : c == 9 ? "&#x9;" : c == 10 ? "&#xA;" : c == 13 ? "&#xD;" : Check.text(c);
        written("<a b='&#" + c + ";'>&#" + c + ";</a>", "<a b=\"" + value + "\">" + in + "</a>");
        written("<a xmlns:p='u:&#x" + Integer.toHexString(c) + ";'/>", "<a xmlns:p=\"u:" + value + "\"></a>");
    }

    private static void instructionsAround() {
        Check.says("a 10 behind each instruction before the root, before each one behind it");
        for (int before = 0; before < 4; before++) {
            for (int behind = 0; behind < 4; behind++) {
                String text = " <?p q?><!---->".repeat(before) + "<a><?r?></a>" + "<?s t?>\n ".repeat(behind);
                written(text, "<?p q?>\n".repeat(before) + "<a><?r?></a>" + "\n<?s t?>".repeat(behind));
            }
        }
        written("<?p?><!DOCTYPE a [<?q?>]><?r?><a/>", "<?p?>\n<?r?>\n<a></a>");
    }

    private static void orders() {
        Check.says("(Orders: by characters, the shorter one first if it begins the other.)");
        written("<a b='' ab='' aa='' a='' aab='' A='' _=''/>", "<a A=\"\" _=\"\" a=\"\" aa=\"\" aab=\"\" ab=\"\" b=\"\"></a>");
        written("<a xmlns:b='u:1' xmlns:ab='u:2' xmlns:a='u:3' xmlns='u:4' xmlns:A='u:5'/>",
            "<a xmlns=\"u:4\" xmlns:A=\"u:5\" xmlns:a=\"u:3\" xmlns:ab=\"u:2\" xmlns:b=\"u:1\"></a>");
        // what the prefix means, nothing first, then the local name, not the prefix
        written("<a xmlns:p='u:2' xmlns:q='u:1' p:a='' q:b='' q:a='' z='' xml:a=''/>",
            "<a xmlns:p=\"u:2\" xmlns:q=\"u:1\" z=\"\" xml:a=\"\" q:a=\"\" q:b=\"\" p:a=\"\"></a>");
        written("<a xmlns:p='u:ab' xmlns:q='u:a' p:a='' q:b=''/>", "<a xmlns:p=\"u:ab\" xmlns:q=\"u:a\" q:b=\"\" p:a=\"\"></a>");
        written("<a xmlns:p='u:1' xmlns:q='u:1' q:a='' p:b=''/>", "<a xmlns:p=\"u:1\" xmlns:q=\"u:1\" q:a=\"\" p:b=\"\"></a>");
        written("<a \ufffd='' \ud800\udc00='' \ud7ff='' \uf900=''/>", "<a \ud7ff=\"\" \uf900=\"\" \ufffd=\"\" \ud800\udc00=\"\"></a>");
        written("<a/>", "<a></a>");
        written("<a b=''/>", "<a b=\"\"></a>");
        written("<a c='' b=''/>", "<a b=\"\" c=\"\"></a>");
    }

    private static void declarationsWritten() {
        Check.says("its namespace declarations that mean another thing than what that prefix (or none) means outside the element",
            "a prefix means outside the root nothing, but for xml, which is never written");
        written("<a xmlns=''/>", "<a></a>");
        written("<a xmlns='u:1'/>", "<a xmlns=\"u:1\"></a>");
        written("<a xmlns='u:1'><b xmlns=''/></a>", "<a xmlns=\"u:1\"><b xmlns=\"\"></b></a>");
        written("<a xmlns='u:1'><b xmlns=''><c xmlns=''/><d xmlns='u:1'/></b></a>", "<a xmlns=\"u:1\"><b xmlns=\"\"><c></c><d xmlns=\"u:1\"></d></b></a>");
        written("<a xmlns='u:1'><b xmlns='u:1'/></a>", "<a xmlns=\"u:1\"><b></b></a>");
        written("<a xmlns:p='u:1'><b xmlns:p='u:1'/><b xmlns:p='u:2'/><b xmlns:p='u:1'/></a>", "<a xmlns:p=\"u:1\"><b></b><b xmlns:p=\"u:2\"></b><b></b></a>");
        written("<a><b xmlns:p='u:1'/><b xmlns:p='u:1'/></a>", "<a><b xmlns:p=\"u:1\"></b><b xmlns:p=\"u:1\"></b></a>");
        written("<a xmlns:xml='" + XML + "'><xml:b xmlns:xml='" + XML + "' xml:c=''/></a>", "<a><xml:b xml:c=\"\"></xml:b></a>");
        written("<a xmlns='u:1'><p:b xmlns:p='u:1'/></a>", "<a xmlns=\"u:1\"><p:b xmlns:p=\"u:1\"></p:b></a>");
    }
}
