/** The edges of ROOM, nodes, models and the product: at each limit, one below and one above it; all within 512 calls of an object. */
public final class EdgeLimitsTest {
    private static final int NONE = MarkupJudge.NONE;
    private static final String D = "<!DOCTYPE a [";

    private EdgeLimitsTest() {
    }

    public static void main(String[] args) {
        roomsThatAreTaken();
        nodesThatAreTaken();
        roomOfTheText();
        roomOfReferences();
        roomOfNothing();
        roomInOrder();
        nodesOfEachKind();
        noNodes();
        nodesInOrder();
        namesOfModels();
        depthOfModels();
        manyDeclarations();
        smallRooms();
        fullRooms();
        longestProduct();
        longestThatGoesBack();
        Check.finish();
    }

    /** A document for which so many characters are counted. */
    private static String filling(int room) {
        if (room < 3000) {
            return "<a>" + "x".repeat(room - 7) + "</a>";
        }
        String before = D + "<!ENTITY e '" + "x".repeat(1000) + "'>]><a>";
        int left = room - before.length() - 4;
        return before + "&e;".repeat(left / 1003) + "x".repeat(left % 1003) + "</a>";
    }

    private static void roomsThatAreTaken() {
        Check.says("A judge with so much room (64 .. 98304; 98304 for any other number)");
        int[] given = {64, 65, 98303, 98304, 63, 98305, 0, 1, -1, -64, 65600, 163840, Integer.MAX_VALUE, Integer.MIN_VALUE};
        for (int room : given) {
            int taken = room >= 64 && room <= 98304 ? room : 98304;
            MarkupJudge x = new MarkupJudge(room, 0);
            Check.due("room " + room, Check.judge(x, filling(taken)), 1);
            Check.due("room " + room + " is used up", x.counted(), taken);
            x = new MarkupJudge(room, 0);
            Check.judge(x, filling(taken - 1));
            Check.due("room " + room + ", one less", x.counted(), taken - 1);
            x = new MarkupJudge(room, 0);
            Check.due("room " + room + ", one more", Check.judge(x, filling(taken + 1)), 2);
            Check.due("room " + room + ", one more", x.fault(), 4);
            Check.due("room " + room + ", one more", x.counted(), 0);
        }
    }

    /** A document of so many elements. */
    private static String crowded(int nodes) {
        return D + "<!ENTITY e '" + "<b/>".repeat(100) + "'>]><a>" + "&e;".repeat((nodes - 1) / 100) + "<b/>".repeat((nodes - 1) % 100) + "</a>";
    }

    private static void nodesThatAreTaken() {
        Check.says("and so many nodes (16 .. 16384; 16384 for any other)");
        int[] given = {16, 17, 16383, 16384, 15, 16385, 0, 1, -1, -16, 32768, Integer.MAX_VALUE, Integer.MIN_VALUE};
        for (int nodes : given) {
            int taken = nodes >= 16 && nodes <= 16384 ? nodes : 16384;
            for (int more = -1; more < 2; more++) {
                MarkupJudge x = new MarkupJudge(0, nodes);
                Check.judge(x, crowded(taken + more));
                Check.due("nodes " + nodes + " and " + more, x.fault(), more == 1 ? 4 : 0);
                Check.due("nodes " + nodes + " and " + more, x.elements(), more == 1 ? 0 : taken + more);
            }
        }
    }

    private static void roomOfTheText() {
        Check.says("the text has more than ROOM characters (the first number of the constructor), that is fault 4 at 0");
        String[] characters = {"x", "\n", "\r", "\r\n", "\u00e9", "\u20ac", "\ud83d\ude00"};
        for (String c : characters) {
            for (int n = 56; n < 60; n++) {
                MarkupJudge x = new MarkupJudge(64, 16);
                Check.judge(x, "<a>" + c.repeat(n) + "</a>");
                Check.due(n + " characters", x.fault(), n > 57 ? 4 : 0);
                Check.due(n + " characters", x.place(), n > 57 ? 0 : NONE);
                Check.due(n + " characters", x.counted(), n > 57 ? 0 : n + 7);
            }
        }
    }

    /** Room enough, one less, one more; the references in it need so much beside the text. */
    private static void exact(String text, int extra, int place) {
        int need = text.length() + extra;
        Check.due("enough for a room", need > 64, true);
        for (int room = need - 1; room < need + 2; room++) {
            MarkupJudge x = new MarkupJudge(room, 0);
            Check.judge(x, text);
            Check.due(text + " in " + room, x.fault(), room < need ? 4 : 0);
            Check.due(text + " in " + room, x.place(), room < need ? place : NONE);
            Check.due(text + " in " + room, x.counted(), room < need ? 0 : need);
        }
    }

    private static void roomOfReferences() {
        Check.says("ROOM: the characters of the text, and for each time that an entity's text is gone through (at a reference to it) its length, together may be no more than ROOM.");
        String d = D + "                        <!ENTITY e '12345'><!ENTITY f '&e;&e;'><!ENTITY g '<b c=\"&f;\"/>'>";
        int n = d.length();
        exact(d + "]><a>&e;</a>", 5, n + 5);
        exact(d + "]><a> &e; &e;&e;</a>", 15, n + 12 + 1);
        exact(d + "]><a>&f;</a>", 6 + 10, n + 5);
        exact(d + "]><a>xx&f;&e;</a>", 6 + 10 + 5, n + 10);
        exact(d + "]><a><b/>&g;</a>", 12 + 6 + 10, n + 9);
        exact(d + "]><a b='&e;'/>", 5, n + 2);
        exact(d + "]> <a b='&e;&f;'/>", 5 + 6 + 10, n + 3);
        exact(d + "]> <a b='&e;' c='x&e;'/>", 10, n + 3);
        exact(d + "<!ATTLIST a b CDATA '&e;'>]><a/>", 5, n);
        exact(d + "<!ATTLIST a b CDATA #FIXED '&e;' c CDATA '&f;'>]><a/>", 5 + 6 + 10, n);
        exact(d + "<!ATTLIST a b CDATA '&e;'>]><a><a/><a/></a>", 5, n);
        exact(d + "<!ATTLIST a b CDATA 'x'> <!ATTLIST a b CDATA '&e;'>]><a/>", 5, n + 25);
        exact(d + "<!ATTLIST z b CDATA #IMPLIED b CDATA '&e;'>]><a/>", 5, n);
        String p = D + "                        <!ENTITY % p '     '><!ENTITY % q ' &#37;p;&#37;p;'><!ENTITY e '12345'><!ENTITY % r '<!ATTLIST a b CDATA \"&#38;e;\">'>";
        n = p.length();
        exact(p + "%p;]><a/>", 5, n);
        exact(p + "%p; %p;]><a/>", 10, n + 4);
        exact(p + "%q;]><a/>", 7 + 10, n);
        exact(p + "%r;]><a/>", 27 - 1 + 5, n);
        exact(p + "%r; %p;]><a/>", 27 - 1 + 5 + 5, n + 4);
    }

    private static void roomOfNothing() {
        Check.says("for each time that an entity's text is gone through (at a reference to it) its length");
        // none is needed for what is empty, means a character, or is not declared
        String d = D + "<!ENTITY e ''><!ENTITY % p ''>%p;%p;<!ENTITY f 'xxxxxxxxx'><!ATTLIST a b CDATA '&e;&x;&#32;&lt;'>]>";
        exact(d + "<a c='&e;&e;&x;&#32;&amp;'>&e;&e;&#x20;&lt;&gt;&amp;&apos;&quot;&y;</a>", 0, 0);
        String declared = D + "<!ENTITY lt 'xxxxxxxxx'><!ENTITY e 'x'><!ENTITY e 'yyyy'>]><a b='&lt;'>&lt;&#60;";
        exact(declared + "&e;</a>", 1, declared.length());
    }

    private static void roomInOrder() {
        Check.says("4: see ROOM");
        String d = D + "<!ENTITY e '" + "x".repeat(60) + "'>]>";
        int room = d.length() + 20;
        MarkupJudge x = new MarkupJudge(room, 0);
        int at = d.length();
        Check.faulty(x, Check.utf8(d + "<a>&e;&x;</a>"), "4, then 9", 4, at + 3);
        Check.faulty(x, Check.utf8(d + "<a>&x;&e;</a>"), "9, then 4", 9, at + 3);
        Check.faulty(x, Check.utf8(d + "<a b='&#0;&e;'/>"), "12, then 4", 12, at);
        Check.faulty(x, Check.utf8(d + "<a b='&e;&#0;'/>"), "4, then 12", 4, at);
        Check.faulty(x, Check.utf8(d + "<a b='&e;'/"), "5 before 4", 5, at);
        Check.faulty(x, Check.utf8(d + "<a/>&e;"), "6 before 4", 6, at + 4);
        Check.due("not gone through", Check.judge(x, d + "<a/>"), 1);
    }

    private static void exactNodes(String text, int need, int place) {
        for (int nodes = need - 1; nodes < need + 2; nodes++) {
            MarkupJudge x = new MarkupJudge(0, nodes);
            Check.judge(x, text);
            Check.due(text + " with " + nodes, x.fault(), nodes < need ? 4 : 0);
            Check.due(text + " with " + nodes, x.place(), nodes < need ? place : NONE);
        }
    }

    private static void nodesOfEachKind() {
        Check.says("There may be no more NODES than the constructor's second number: elements, their attributes (those that come by default, too), instructions in and around the root");
        String sixteen = "<b/>".repeat(16);
        exactNodes("<a>" + sixteen + "</a>", 17, 63);
        exactNodes("<a>" + sixteen + "<b></b></a>", 18, 67);
        exactNodes("<a>" + sixteen + "<?p?></a>", 18, 67);
        exactNodes("<a>" + sixteen + "</a><?p?>", 18, 71);
        exactNodes("<a>" + sixteen + "<b c=''/></a>", 19, 67);
        exactNodes("<?p?>".repeat(16) + "<a/>", 17, 80);
        exactNodes("<?p?>".repeat(17) + "<!DOCTYPE a><a/>", 18, 97);
        exactNodes("<a/>" + "<?p?>".repeat(17), 18, 84);
        StringBuilder tag = new StringBuilder("<a");
        for (int i = 0; i < 16; i++) {
            tag.append(" b").append(i).append("=''");
        }
        exactNodes(tag + "/>", 17, 0);
        exactNodes(" " + tag + "/>", 17, 1);
        exactNodes(tag + "><b/></a>", 18, tag.length() + 1);
        String d = D + "<!ATTLIST a b CDATA '' c CDATA #FIXED 'x' d CDATA #IMPLIED e CDATA #REQUIRED b CDATA ''><!ATTLIST b b CDATA ''>";
        exactNodes(d + "]>" + "<?p?>".repeat(14) + "<a/>", 17, d.length() + 2 + 70);
        exactNodes(d + "]>" + "<?p?>".repeat(14) + "<a b=''/>", 17, d.length() + 2 + 70);
        exactNodes(d + "]>" + "<?p?>".repeat(14) + "<a d=''/>", 18, d.length() + 2 + 70);
        exactNodes(d + "]><a>" + "<b/>".repeat(8) + "</a>", 19, d.length() + 5 + 28);
        String e = d + "<!ENTITY e '<b/><?p?>'><!ENTITY f '&e;&e;'>]><a>";
        exactNodes(e + "&f;<c/>&f;<d/></a>", 3 + 6 + 1 + 6 + 1, e.length() + 10);
        exactNodes(e + "&f;<c/>&f;&e;</a>", 3 + 6 + 1 + 6 + 3, e.length() + 10);
    }

    private static void noNodes() {
        Check.says("instructions in and around the root");
        String d = D + "<?p?>".repeat(20) + "<!ELEMENT a ANY><!ATTLIST a b CDATA #IMPLIED><!ATTLIST z b CDATA ''><!ENTITY e '<b/>'>]>";
        String all = "x<!---->&lt;<![CDATA[x]]> ".repeat(20);
        MarkupJudge x = new MarkupJudge(0, 16);
        Check.due("none of these", Check.judge(x, "<?xml version='1.0'?>" + d + "<!---->".repeat(20) + "<a>" + all + "</a>" + " <!---->".repeat(20)), 0);
        x = new MarkupJudge(0, 16);
        Check.due("full", Check.judge(x, d + "<a>" + all + "<a/>".repeat(15) + all + "</a>"), 0);
        x = new MarkupJudge(0, 16);
        Check.due("each time from none on", Check.judge(x, "<a>" + "<b/>".repeat(15) + "</a>"), 1);
        Check.due("each time from none on", Check.judge(x, "<a>" + "<b/>".repeat(15) + "</a>"), 1);
        Check.due("each time from none on", Check.judge(x, "<a>" + "<b/>".repeat(16) + "</a>"), 2);
        Check.due("each time from none on", Check.judge(x, "<a>" + "<b/>".repeat(15) + "</a>"), 1);
    }

    private static void nodesInOrder() {
        Check.says("looked at behind a tag's other faults, or behind an instruction");
        String full = "<a>" + "<b/>".repeat(15);
        String[] items = {"<b/>", "<b>", "<?p?>", "<b", "<b c='' c=''/>", "<b c='&x;'/>", "<b c='&#0;'/>", "<b c='<'/>", "<?xml?>", "<?p", "</b>", "x]]>", "&x;"};
        int[] faults = {4, 4, 4, 5, 8, 9, 12, 5, 5, 5, 7, 5, 9};
        for (int i = 0; i < items.length; i++) {
            Check.faulty(new MarkupJudge(0, 16), Check.utf8(full + items[i]), items[i] + " at the limit", faults[i], full.length());
        }
        // so many attributes that the element alone has too many, and then another fault of the same tag
        StringBuilder tag = new StringBuilder("<a");
        for (int i = 0; i < 40; i++) {
            tag.append(" b").append(i).append("=''");
        }
        String[] ends = {"/>", " b0=''/>", " c='&x;'/>", " c=''", ""};
        int[] due = {4, 8, 9, 5, 5};
        for (int i = 0; i < ends.length; i++) {
            Check.faulty(new MarkupJudge(0, 16), Check.utf8(tag + ends[i]), "a tag of 40 and " + ends[i], due[i], 0);
        }
        Check.faulty(new MarkupJudge(64, 16), Check.utf8(tag + "/>"), "fault 4 of the text, too", 4, 0);
    }

    /** The model as it stands, and in an entity's text, and as a later one. */
    private static void model(String model, int fault) {
        String d = D + "<!ELEMENT a " + model + ">]><a/>";
        String later = D + "<!ELEMENT a ANY><!ELEMENT a " + model + ">]><a/>";
        String entity = D + "<!ENTITY % p '<!ELEMENT a " + model + ">'>";
        if (fault == 0) {
            Check.good(d);
            Check.good(later);
            Check.good(entity + "%p;]><a/>");
        } else {
            Check.faulty(d, fault, 13);
            Check.faulty(later, fault, 29);
            Check.faulty(entity + "%p;]><a/>", fault, entity.length());
        }
    }

    private static String names(int n, String separator) {
        StringBuilder row = new StringBuilder("n");
        for (int i = 1; i < n; i++) {
            row.append(separator).append('n').append(i);
        }
        return row.toString();
    }

    private static void namesOfModels() {
        Check.says("Fault 4: a model of more than 255 names");
        for (int n = 253; n < 258; n++) {
            int fault = n > 255 ? 4 : 0;
            model("(" + names(n, "|") + ")", fault);
            model("(" + names(n, ",") + ")*", fault);
            model("(" + names(n, "?\n,") + "+)", fault);
            model("(x" + ",x".repeat(n - 1) + ")", fault);
            model("((x|y)" + ",x".repeat(n - 4) + ",(y)+,y?)", fault);
            model("(" + names(n, "|") + "", 5);
            model("(#PCDATA|" + names(n, "|") + ")*", 0);
            model("(#PCDATA" + "|x".repeat(n) + ")*", 0);
        }
        // of each model for itself
        Check.good(D + "<!ELEMENT a (" + names(255, "|") + ")><!ELEMENT b (" + names(255, ",") + ")>]><a/>");
        // the last one of 255 is looked at, too
        String d = D + "<!ELEMENT a (" + "b,".repeat(254) + "c)><!ELEMENT b EMPTY><!ELEMENT c EMPTY>]><a>";
        Check.due("a row of 255", Check.violations(Check.formed(d + "<b/>".repeat(254) + "<c/></a>")), "");
        Check.due("a row of 254", Check.violations(Check.formed(d + "<b/>".repeat(253) + "<c/></a>")), "6:1");
        Check.due("a row of 256", Check.violations(Check.formed(d + "<b/>".repeat(255) + "<c/></a>")), "6:1");
        Check.due("without the last", Check.violations(Check.formed(d + "<b/>".repeat(254) + "</a>")), "6:1");
        Check.due("254 and 255 alike", Check.formed(D + "<!ELEMENT a (" + names(253, "|") + "|z|z)>]><a/>").violations(4), 1);
        Check.due("1 and 255 alike", Check.formed(D + "<!ELEMENT a (z|" + names(253, "|") + "|z)>]><a/>").violations(4), 1);
        Check.due("none alike", Check.formed(D + "<!ELEMENT a (y|" + names(253, "|") + "|z)>]><a/>").violations(4), 0);
    }

    private static void depthOfModels() {
        Check.says("or with groups in groups more than 60 deep (its own is one)");
        for (int n = 58; n < 64; n++) {
            int fault = n > 60 ? 4 : 0;
            model("(".repeat(n) + "x" + ")".repeat(n), fault);
            model("(".repeat(n) + "x" + ")*".repeat(n), fault);
            model("(x|".repeat(n) + "x" + ")".repeat(n), fault);
            model("(".repeat(n) + "x" + ",x)?".repeat(n), fault);
            model("(x," + "(".repeat(n - 1) + "x" + ")".repeat(n - 1) + ",y)", fault);
            model("((x|y)," + "(".repeat(n - 1) + "x" + ")".repeat(n - 1) + ",((z)))", fault);
            model("(".repeat(n) + "x" + ")".repeat(n - 1), 5);
            model("(".repeat(n) + "x" + ")".repeat(n + 1), 5);
            // beside each other they are not deeper
            String one = "(".repeat(n - 1) + "x" + ")".repeat(n - 1);
            model("(" + one + "|" + one + ")", fault);
        }
        model("(".repeat(61) + names(256, "|") + ")".repeat(61), 4);
        String d = D + "<!ELEMENT a " + "(".repeat(60) + "b" + ")".repeat(60) + "><!ELEMENT b EMPTY>]>";
        Check.due("one b", Check.violations(Check.formed(d + "<a><b/></a>")), "");
        Check.due("no b", Check.violations(Check.formed(d + "<a/>")), "6:1");
        Check.due("two b", Check.violations(Check.formed(d + "<a><b/><b/></a>")), "6:1");
    }

    /** As many as a room holds, all of them counted. */
    private static void manyDeclarations() {
        Check.says("The first declaration of an entity (parameter entities for themselves), of an attribute of an element's name, of an element, counts");
        String[] items = {"<!ELEMENT a ANY>", "<!NOTATION n SYSTEM \"\">", "<!ENTITY e \"\">", "<!ENTITY a:b \"\">", "<?a:?>"};
        int[] counted = {2, 20, NONE, NONE, NONE};
        for (int i = 0; i < items.length; i++) {
            String before = D + "<!ENTITY % p '" + items[i].repeat(100) + "'>";
            int times = (98304 - before.length() - 6) / (100 * items[i].length() + 3);
            MarkupJudge x = Check.formed(before + "%p;".repeat(times) + "]><a/>");
            if (counted[i] != NONE) {
                Check.due(items[i], x.violations(counted[i]), 100 * times - 1);
            } else {
                Check.due(items[i], x.spaces(5), items[i].indexOf(':') > 0 ? 100 * times : 0);
            }
            Check.faulty(before + "%p;".repeat(times + 1) + "]><a/>", 4, before.length() + 3 * times);
        }
        StringBuilder attributes = new StringBuilder(D + "<!ATTLIST a");
        for (int i = 0; i < 500; i++) {
            attributes.append(" a").append(i).append(" ID 'x'");
        }
        MarkupJudge x = Check.formed(attributes + ">]><a/>");
        Check.due("attributes", x.attributes(0), 500);
        Check.due("the last one", Check.part(x, 0, 499, 0), "a499");
        Check.due("behind it", x.attribute(0, 500, 0, 0), NONE);
        Check.due("of type ID", Check.violations(x), "5:1 11:499 13:499 14:500");
    }

    /** The smallest rooms, full of what takes the most in few characters. */
    private static void smallRooms() {
        Check.says("64 .. 98304");
        StringBuilder tag = new StringBuilder("<a");
        for (char c = 'A'; c <= 'K'; c++) {
            tag.append(' ').append(c).append("=''");
        }
        MarkupJudge x = new MarkupJudge(64, 16);
        Check.due("attributes", Check.judge(x, tag + "/>"), 1);
        Check.due("attributes", x.attributes(0), 11);
        Check.due("elements", Check.judge(x, "<a>" + "<B/>".repeat(14) + "</a>"), 1);
        Check.due("elements", x.elements(), 15);
        Check.due("elements", Check.judge(x, "<a>".repeat(9) + "</a>".repeat(9)), 1);
        Check.due("the deepest", x.parent(8), 7);
        Check.due("declarations", Check.judge(x, D + "<!ENTITY a ''><!ENTITY b ''><!ENTITY c ''>]><a/>   "), 1);
        Check.due("used up", x.counted(), 64);
        Check.due("a list", Check.judge(x, D + "<!ATTLIST a b (1|2|3|4|5|6|7|8|9|.|:) '1'>]><a/>"), 1);
        Check.due("a list", Check.violations(x), "5:1");
        Check.due("a model", Check.judge(x, D + "<!ELEMENT a (b,c,d,e,f,g,h,i,j,k,l,m)>]><a/>"), 1);
        Check.due("a model", Check.violations(x), "6:1");
        Check.due("deep", Check.judge(x, D + "<!ELEMENT a " + "(".repeat(15) + "b" + ")".repeat(15) + ">]><a/>"), 1);
        Check.due("deep", Check.violations(x), "6:1");
        Check.due("prefixes", Check.judge(x, "<a:b c:d='e' f:g='h' i:j='k' l:m='n' o:p='q' r:s='t' u:v='w'/>"), 1);
        Check.due("prefixes", Check.spaces(x), "1:8");
        Check.due("instructions", Check.judge(x, "<?p?>".repeat(12) + "<a/>"), 1);
        Check.due("instructions", x.canonical(), 12 * 6 + 7);
    }

    /** The text, in a room that it fills. */
    private static MarkupJudge filled(String text) {
        MarkupJudge x = new MarkupJudge(text.codePointCount(0, text.length()), 0);
        Check.due("filled", Check.judge(x, text), 1);
        return x;
    }

    /** Nothing but ROOM is a limit to words and declarations: as many as its characters can hold. */
    private static void fullRooms() {
        Check.says("ROOM: the characters of the text, and for each time that an entity's text is gone through (at a reference to it) its length, together may be no more than ROOM.");
        int first = 0x4E00;
        StringBuilder list = new StringBuilder(D + "<!ATTLIST a b (A");
        StringBuilder model = new StringBuilder(D + "<!ELEMENT a (#PCDATA");
        StringBuilder entities = new StringBuilder(D);
        StringBuilder elements = new StringBuilder(D);
        StringBuilder attributes = new StringBuilder(D + "<!ATTLIST a");
        StringBuilder tag = new StringBuilder("<a");
        for (int i = 0; i < 300; i++) {
            list.append('|').append((char) (first + 2 * i)).append('|').append((char) (first + 2 * i + 1));
            model.append('|').append((char) (first + 2 * i)).append('|').append((char) (first + 2 * i + 1));
            entities.append("<!ENTITY ").append((char) (first + i)).append(" ''>");
            elements.append("<!ELEMENT ").append((char) (first + i)).append(" ANY>");
            attributes.append(' ').append((char) (first + i)).append(" ID ''");
            tag.append(' ').append((char) (first + i)).append(':').append((char) (first + 1000 + i)).append("='").append((char) (first + 2000 + i)).append("'");
        }
        Check.due("a list of names", Check.violations(filled(list + ") 'A'>]><a/>")), "5:1");
        Check.due("a list of names", Check.violations(filled(list + "|A) 'A'>]><a/>")), "5:1 19:1");
        Check.due("a group", Check.violations(filled(model + "|" + (char) first + ")*>]><b/>")), "1:1 3:1 5:1");
        char last = (char) (first + 299);
        Check.due("entities", filled(entities + "]><a>&" + last + ";&" + (char) first + ";</a>").characters(), 0);
        MarkupJudge x = filled(elements + "]><" + last + "><" + (char) first + "/></" + last + ">");
        Check.due("elements", Check.violations(x), "1:1");
        x = filled(attributes + ">]><a/>");
        Check.due("attributes", x.attributes(0), 300);
        Check.due("attributes", Check.violations(x), "5:1 11:299 13:299 14:300 15:300");
        x = filled(tag + "/>");
        Check.due("prefixes", Check.spaces(x), "1:300");
        Check.due("the last one", Check.part(x, 0, 299, 0), last + ":" + (char) (first + 1299));
        Check.due("the last one", x.attribute(0, 299, 1, 0), first + 2299);
        deepEntities();
    }

    private static void deepEntities() {
        StringBuilder general = new StringBuilder(D);
        StringBuilder parameter = new StringBuilder(D);
        int first = 0x4E00;
        for (int i = 0; i < 300; i++) {
            general.append("<!ENTITY ").append((char) (first + i)).append(" '&").append((char) (first + i + 1)).append(";'>");
            parameter.append("<!ENTITY % ").append((char) (first + i)).append(" '&#37;").append((char) (first + i + 1)).append(";'>");
        }
        char last = (char) (first + 300);
        general.append("<!ENTITY ").append(last).append(" 'x'>]><a>&").append((char) first).append(";</a>");
        parameter.append("<!ENTITY % ").append(last).append(" ''>%").append((char) first).append(";]><a/>");
        exact(general.toString(), 300 * 3 + 1, general.length() - 7);
        exact(parameter.toString(), 300 * 3, parameter.length() - 9);
    }

    /** A root with so many bytes of characters in it, in few characters. */
    private static String root(int bytes, String more) {
        String before = "<!DOCTYPE a [<!ENTITY e '" + ">".repeat(1000) + "'>]><a>";
        return before + "&e;".repeat(bytes / 4000) + ">".repeat(bytes % 4000 / 4) + "x".repeat(bytes % 4) + more + "</a>";
    }

    /** Beside the root, and characters in it, that is written. */
    private static void product(String written, String before, String more, String behind) {
        String told = "with " + written;
        int size = Check.utf8(written).length;
        int limit = 262144;
        for (int n = limit - 1; n < limit + 2; n++) {
            MarkupJudge x = new MarkupJudge(0, 0);
            Check.judge(x, "<z/>");
            Check.due(told, x.canonical(), 7);
            Check.due(told, Check.judge(x, before + root(n - 7 - size, more) + behind), 1);
            Check.due(told + " of " + n, x.canonical(), n > limit ? -4 : n);
            Check.due(told + " of " + n + " the product", x.out(n > limit ? 1 : n - 1), n > limit ? 'z' : '>');
            Check.due(told + " of " + n + " behind it", x.out(n > limit ? 7 : n), NONE);
            Check.due(told + " of " + n + " again", x.canonical(), n > limit ? -4 : n);
            Check.due(told + " of " + n + " steady", x.steady(), true);
            Check.due(told + " of " + n + " back", x.back(), n > limit ? 7 : NONE);
            Check.due(told + " of " + n + " the document stays", x.elements() > 0, true);
        }
    }

    private static void longestProduct() {
        Check.says("-4: there would be more than 262144. (Not if one named before is so; the product stays.)");
        product("", "", "", "");
        product("<b></b>", "", "<b/>", "");
        product("\u00e9", "", "\u00e9", "");
        product("\u20ac", "", "\u20ac", "");
        product("\ud83d\ude00", "", "\ud83d\ude00", "");
        product("<b c=\"&#xA;\"></b>", "", "<b c='&#10;'/>", "");
        product("<?p q?>", "", "<?p q?>", "");
        product("\n<?p q?>", "", "", "<?p q?>");
        product("<?p q?>\n", "<?p q?>", "", "");
        product("<p:b xmlns:p=\"u:1\"></p:b>", "", "<p:b xmlns:p='u:1'/>", "");
        // what was declared where it was refused is declared the next time, too
        for (int n = 262144; n < 262170; n++) {
            MarkupJudge x = new MarkupJudge(0, 0);
            Check.judge(x, root(n - 7 - 14, "").replace("<a>", "<a xmlns:p='u:1'>"));
            for (int turn = 0; turn < 3; turn++) {
                Check.due("again and again, " + n, x.canonical(), n > 262144 ? -4 : n);
            }
        }
        String over = root(262144, "");
        String[] others = {over.replace("<a>", "<p:a>").replace("</a>", "</p:a>"), over.replace("<a>", "<a xmlns='x'>")};
        int[] answers = {-2, -3};
        for (int i = 0; i < 2; i++) {
            MarkupJudge x = new MarkupJudge(0, 0);
            Check.judge(x, others[i]);
            Check.due("one named before", x.canonical(), answers[i]);
        }
    }

    private static void longestThatGoesBack() {
        Check.says("NONE when it has more than 65536, or none.");
        for (int n = 65535; n < 65538; n++) {
            MarkupJudge x = new MarkupJudge(0, 0);
            Check.due("a root", Check.judge(x, root(n - 7, "")), 1);
            Check.due("the product", x.canonical(), n);
            x.feed(1, 2, 3, 4, 5);
            Check.due(n + " go back", x.back(), n > 65536 ? NONE : n);
            Check.due(n + " came in", x.end(0), n > 65536 ? 20 : n);
            Check.due(n + " the product stays", x.out(n - 1), '>');
        }
    }
}
