import java.nio.charset.StandardCharsets;
import java.util.Arrays;

/**
 * The limits: ROOM and NODES of promise 1, those of models, of the product and of back(), and what is deep or long; within
 * 512 calls of an object, but for what is said at beyondItsCalls().
 */
public final class LimitsTest {
    private static final int NONE = MarkupJudge.NONE;

    private LimitsTest() {
    }

    public static void main(String[] args) {
        roomOfTheText();
        whichRoom();
        roomOfEntities();
        roomAgainstCircles();
        nodes();
        whichNodes();
        models();
        deepModels();
        deepElements();
        deepEntities();
        manyNames();
        longProduct();
        productsThatGoBack();
        longDefaults();
        beyondItsCalls();
        Check.finish();
    }

    private static void room(int room, String text, int fault, int place) {
        MarkupJudge x = new MarkupJudge(room, 0);
        Check.judge(x, text);
        Check.due("room " + room + " fault()", x.fault(), fault);
        Check.due("room " + room + " place()", x.place(), place);
        if (fault == 0) {
            Check.due("room " + room + " is used up", x.counted(), room);
        }
    }

    private static void roomOfTheText() {
        for (int room = 64; room < 68; room++) {
            room(room, "<a>" + "x".repeat(room - 7) + "</a>", 0, NONE);
            room(room, "<a>" + "\r\n".repeat(room - 7) + "</a>", 0, NONE);
            room(room, "<a>" + "\ud83d\ude00".repeat(room - 7) + "</a>", 0, NONE);
            room(room, "<a>" + "x".repeat(room - 6) + "</a>", 4, 0);
            room(room, "x".repeat(room + 1), 4, 0);
        }
    }

    private static void whichRoom() {
        int[] given = {63, 64, 98304, 98305, 0, -1, Integer.MAX_VALUE, Integer.MIN_VALUE};
        int[] taken = {98304, 64, 98304, 98304, 98304, 98304, 98304, 98304};
        String d = "<!DOCTYPE a [<!ENTITY e '" + "x".repeat(900) + "'><!ENTITY f '&e;&e;&e;&e;&e;'>]><a>" + "&f;".repeat(21);
        for (int i = 0; i < given.length; i++) {
            MarkupJudge x = new MarkupJudge(given[i], 0);
            Check.judge(x, "<a>" + "x".repeat(57) + "</a>");
            Check.due("64 in a room of " + given[i], x.fault(), 0);
            Check.judge(x, "<a>" + "x".repeat(58) + "</a>");
            Check.due("65 in a room of " + given[i], x.fault(), taken[i] == 64 ? 4 : 0);
            if (taken[i] > 64) {
                int rest = taken[i] - d.length() - 4 - 21 * (15 + 5 * 900);
                Check.due("there is a rest", rest > 900 && rest < 4000, true);
                Check.judge(x, d + "x".repeat(rest) + "</a>");
                Check.due("all in a room of " + given[i], x.fault(), 0);
                Check.due("all in a room of " + given[i], x.counted(), taken[i]);
                Check.due("characters", x.characters(), 21 * 4500 + rest);
                Check.judge(x, d + "x".repeat(rest + 1) + "</a>");
                Check.due("one more in a room of " + given[i], x.fault(), 4);
            }
        }
    }

    private static void roomOfEntities() {
        String d = "<!DOCTYPE a [<!ENTITY e '1234567890'>]>";
        int n = d.length();
        Check.due("long enough for a room", n, 39);
        room(n + 25, d + "<a>&e;</a>     ", 0, NONE);
        room(n + 25, d + "<a>&e;</a>      ", 4, n + 3);
        room(n + 23 + 20, d + "<a b='&e;&e;'/>        ", 0, NONE);
        room(n + 15 + 19, d + "<a b='&e;&e;'/>", 4, n);
        room(n + 15 + 19, d + "<a b='&e;&e;'/", 5, n);
        room(64, d + "<a>&#32;&lt;</a> &e;", 6, n + 17);
        String p = "<!DOCTYPE a [<!ENTITY % p '          '>%p;%p;]><a/>";
        room(p.length() + 20, p, 0, NONE);
        room(p.length() + 19, p, 4, p.length() - 9);
        String v = "<!DOCTYPE a [<!ENTITY e '1234567890'><!ATTLIST a b CDATA '&e;' b CDATA '&e;'>]><a/>";
        room(v.length() + 20, v, 0, NONE);
        room(v.length() + 19, v, 4, 38 - 1);
        String nested = "<!DOCTYPE a [<!ENTITY e '&f;&f;'><!ENTITY f '1234567890'>]><a>&e;</a>";
        room(nested.length() + 26, nested, 0, NONE);
        room(nested.length() + 25, nested, 4, nested.length() - 7);
        // empty ones need none
        String none = "<!DOCTYPE a [<!ENTITY e ''>]><a>&e;&e;&e;&e;&e;&e;&e;&e;&e;&e;</a>";
        room(none.length(), none, 0, NONE);
        // much from little
        StringBuilder laughs = new StringBuilder("<!DOCTYPE a [<!ENTITY l0 'lol'>");
        for (int i = 1; i < 20; i++) {
            laughs.append("<!ENTITY l").append(i).append(" '&l").append(i - 1).append(";&l").append(i - 1).append(";'>");
        }
        int at = laughs.length() + 2;
        Check.faulty(laughs + "]><a>&l19;</a>", 4, at + 3);
        Check.faulty(laughs + "]><a b='&l19;'/>", 4, at);
    }

    private static void roomAgainstCircles() {
        String text = "<!DOCTYPE a [<!ENTITY e '12345&e;'>]><a>&e;" + " ".repeat(20);
        Check.due("64 characters", text.length(), 63);
        room(64, text, 4, 40);
        MarkupJudge x = new MarkupJudge(71, 0);
        Check.faulty(x, Check.utf8(text), "no room within itself", 4, 40);
        x = new MarkupJudge(79, 0);
        Check.faulty(x, Check.utf8(text), "room within itself", 10, 40);
        x = new MarkupJudge(78, 0);
        Check.faulty(x, Check.utf8(text), "no room within itself", 4, 40);
    }

    private static void nodes(int nodes, String text, int fault, int place) {
        MarkupJudge x = new MarkupJudge(0, nodes);
        Check.judge(x, text);
        Check.due(nodes + " nodes, " + text + " fault()", x.fault(), fault);
        Check.due(nodes + " nodes, " + text + " place()", x.place(), place);
    }

    private static void nodes() {
        nodes(16, "<a>" + "<b/>".repeat(15) + "</a>", 0, NONE);
        nodes(16, "<a>" + "<b/>".repeat(16) + "</a>", 4, 63);
        nodes(17, "<a>" + "<b/>".repeat(16) + "</a>", 0, NONE);
        nodes(16, "<a>" + "<b c=''/>".repeat(7) + "<b/></a>", 0, NONE);
        nodes(16, "<a>" + "<b c=''/>".repeat(7) + "<b c=''/></a>", 4, 66);
        nodes(16, "<?a?>".repeat(8) + "<a>" + "<?a?>".repeat(4) + "</a>" + "<?a?>".repeat(3), 0, NONE);
        nodes(16, "<?a?>".repeat(8) + "<a>" + "<?a?>".repeat(4) + "</a>" + "<?a?>".repeat(4), 4, 82);
        nodes(16, "<?a?>".repeat(17), 4, 80);
        nodes(16, "<?a?>".repeat(16) + "<a/>", 4, 80);
        nodes(16, "<!DOCTYPE a [" + "<?a?>".repeat(20) + "]><a>" + "x<!-- -->&lt;<![CDATA[]]>".repeat(20) + "</a>", 0, NONE);
        String d = "<!DOCTYPE a [<!ATTLIST a b CDATA '' c CDATA '' d CDATA '' e CDATA #IMPLIED>]>";
        nodes(16, d + "<a><a/><a/><a/></a>", 0, NONE);
        nodes(16, d + "<a><a/><a/><a e=''/></a>", 4, d.length() + 11);
        // behind a tag's other faults
        StringBuilder full = new StringBuilder("<a");
        for (int i = 0; i < 20; i++) {
            full.append(" b").append(i).append("=''");
        }
        nodes(16, full + "/>", 4, 0);
        nodes(16, full + " b0=''/>", 8, 0);
        nodes(16, full + " c='&x;'/>", 9, 0);
        nodes(16, full + " c=/>", 5, 0);
        nodes(21, full + "/>", 0, NONE);
        nodes(20, full + "/>", 4, 0);
        nodes(16, "<!DOCTYPE a [<!ENTITY e '" + "<b/>".repeat(4) + "'>]><a>&e;&e;&e;<b/>&e;</a>", 4, 61);
    }

    private static void whichNodes() {
        int[] given = {15, 16, 16384, 16385, 0, -1, Integer.MAX_VALUE, Integer.MIN_VALUE};
        String d = "<!DOCTYPE a [<!ENTITY e '" + "<b/>".repeat(100) + "'><!ENTITY f '" + "&e;".repeat(10) + "'>]>";
        for (int nodes : given) {
            MarkupJudge x = new MarkupJudge(0, nodes);
            Check.judge(x, "<a>" + "<b/>".repeat(16) + "</a>");
            Check.due("17 of " + nodes + " nodes", x.fault(), nodes == 16 ? 4 : 0);
            if (nodes != 16) {
                String most = d + "<a>" + "&f;".repeat(16) + "&e;&e;&e;" + "<c/>".repeat(83);
                Check.judge(x, most + "</a>");
                Check.due("16384 of " + nodes + " nodes", x.fault(), 0);
                Check.due("elements", x.elements(), 16384);
                Check.due("the last one", x.name(16383, 0), 'c');
                Check.due("its parent", x.parent(16383), 0);
                Check.judge(x, most + "<c/></a>");
                Check.due("16385 of " + nodes + " nodes", x.fault(), 4);
                Check.due("where", x.place(), most.length());
            }
        }
    }

    private static String names(int n, String separator) {
        StringBuilder row = new StringBuilder("n1");
        for (int i = 2; i <= n; i++) {
            row.append(separator).append('n').append(i);
        }
        return row.toString();
    }

    private static void models() {
        String d = "<!DOCTYPE a [<!ELEMENT a ";
        Check.good(d + "(" + names(255, "|") + ")>]><a/>");
        Check.faulty(d + "(" + names(256, "|") + ")>]><a/>", 4, 13);
        Check.faulty(d + "(" + names(256, "|") + ",x)>]><a/>", 5, 13);
        Check.good(d + "(" + names(255, ",") + ")>]><a/>");
        Check.faulty(d + "(x*" + ",x*".repeat(255) + ")>]><a/>", 4, 13);
        Check.good(d + "(#PCDATA|" + names(300, "|") + ")*>]><a/>");
        Check.good(d + "(" + names(200, "|") + ")><!ELEMENT b (" + names(200, ",") + ")><!ELEMENT c (#PCDATA)>]><a/>");
        MarkupJudge again = new MarkupJudge(0, 0);
        Check.faulty(again, Check.utf8(d + "(" + names(256, "|") + ")>]><a/>"), "too many names", 4, 13);
        Check.due("the next one", Check.judge(again, d + "(b)>]><a/>"), 1);
        StringBuilder all = new StringBuilder("<a>");
        StringBuilder declared = new StringBuilder(d + "(" + names(255, "?,") + ")>");
        for (int i = 1; i <= 255; i++) {
            all.append("<n").append(i).append("/>");
            declared.append("<!ELEMENT n").append(i).append(" EMPTY>");
        }
        Check.due("a long row", Check.violations(Check.formed(declared + "]>" + all + "</a>")), "");
        Check.due("one too many", Check.violations(Check.formed(declared + "]>" + all + "<n255/></a>")), "6:1");
        Check.due("out of order", Check.violations(Check.formed(declared + "]><a><n9/><n8/><n255/></a>")), "6:1");
        Check.due("out of order", Check.violations(Check.formed(declared + "]><a><n40/><n32/><n255/></a>")), "6:1");
        Check.due("out of order", Check.violations(Check.formed(declared + "]><a><n200/><n64/><n255/></a>")), "6:1");
        Check.due("the last must be", Check.violations(Check.formed(declared + "]><a><n9/></a>")), "6:1");
        Check.due("all but the last may be missing", Check.violations(Check.formed(declared + "]><a><n255/></a>")), "");
        MarkupJudge x = Check.formed(d + "(" + names(254, "|") + "|n31)*>]><a/>");
        Check.due("a name twice in a long group", x.violations(4), 1);
    }

    private static void deepModels() {
        String d = "<!DOCTYPE a [<!ELEMENT a ";
        Check.good(d + "(".repeat(60) + "b" + ")".repeat(60) + ">]><a/>");
        Check.faulty(d + "(".repeat(61) + "b" + ")".repeat(61) + ">]><a/>", 4, 13);
        Check.faulty(d + "(".repeat(61) + "b" + ")".repeat(60) + ">]><a/>", 5, 13);
        Check.faulty(d + "(".repeat(3000) + "b" + ")".repeat(3000) + ">]><a/>", 4, 13);
        Check.faulty(d + "(".repeat(3000) + "b" + ")*".repeat(3001) + ">]><a/>", 5, 13);
        Check.faulty(d + "(".repeat(9900), 5, 13);
        MarkupJudge again = new MarkupJudge(0, 0);
        Check.faulty(again, Check.utf8(d + "(".repeat(61) + "b" + ")".repeat(61) + ">]><a/>"), "too deep", 4, 13);
        Check.due("the next one", Check.judge(again, d + "(b)>]><a/>"), 1);
        Check.good(d + "(c" + ",(c".repeat(59) + ")".repeat(60) + ">]><a/>");
        String deep = d + "(".repeat(60) + "b" + ")*".repeat(60) + "><!ELEMENT b EMPTY>]>";
        Check.due("stars on stars", Check.violations(Check.formed(deep + "<a><b/><b/></a>")), "");
        Check.due("stars on stars", Check.violations(Check.formed(deep + "<a/>")), "");
    }

    private static void deepElements() {
        String up = "<a>".repeat(1300);
        String down = "</a>".repeat(1300);
        MarkupJudge x = Check.formed(up + down);
        Check.due("parent of the deepest", x.parent(1299), 1298);
        Check.due("canonical", x.canonical(), 9100);
        Check.due("back", x.back(), 9100);
        Check.due("judge", x.judge(), 1);
        Check.due("elements", x.elements(), 1300);
        Check.faulty(up, 6, 3900);
        Check.faulty(up + down + "</a>", 6, 9100);
    }

    /** Entities within entities, as many as there are. */
    private static void deepEntities() {
        int n = 300;
        StringBuilder general = new StringBuilder("<!DOCTYPE a [<!ENTITY e0 'x'>");
        StringBuilder parameter = new StringBuilder("<!DOCTYPE a [<!ENTITY % p0 '<!ELEMENT a ANY>'>");
        for (int i = 1; i <= n; i++) {
            general.append("<!ENTITY e").append(i).append(" '&e").append(i - 1).append(";'>");
            parameter.append("<!ENTITY % p").append(i).append(" '&#37;p").append(i - 1).append(";'>");
        }
        MarkupJudge x = Check.formed(general + "]><a b='&e" + n + ";'>&e" + n + ";</a>");
        Check.due("deep in a value", Check.part(x, 0, 0, 1), "x");
        Check.due("deep in an element", x.characters(), 1);
        x = Check.formed(parameter + "%p" + n + ";]><a/>");
        Check.due("deep in the declaration", Check.violations(x), "");
    }

    private static void manyNames() {
        StringBuilder list = new StringBuilder("<!DOCTYPE a [<!ATTLIST a b (A");
        for (int c = 0x4E00; c < 0x4E00 + 2400; c++) {
            list.append('|').append((char) c);
        }
        String text = list + "|A) #IMPLIED>]><a b='\u4E01'/>";
        byte[] row = ("\ufeff" + text).getBytes(StandardCharsets.UTF_16BE);
        MarkupJudge x = new MarkupJudge(0, 0);
        Check.due("many tokens", Check.judge(x, row), 1);
        Check.due("many tokens", Check.violations(x), "5:1 19:1");
        StringBuilder tag = new StringBuilder("<a");
        for (int c = 0x4E00; c < 0x4E00 + 900; c++) {
            tag.append(' ').append((char) c).append("=''");
        }
        row = ("\ufeff" + tag + "/>").getBytes(StandardCharsets.UTF_16BE);
        x = new MarkupJudge(0, 0);
        Check.due("many attributes", Check.judge(x, row), 1);
        Check.due("many attributes", x.attributes(0), 900);
        Check.due("canonical", x.canonical(), 900 * (1 + 3 + 3) + 7);
        row = ("\ufeff" + tag + " \u4E00=''/>").getBytes(StandardCharsets.UTF_16BE);
        x = new MarkupJudge(0, 0);
        Check.due("one of them twice", Check.judge(x, row), 2);
        Check.due("one of them twice", x.fault(), 8);
    }

    /** 262144 bytes are a product, 262145 are none. */
    private static void longProduct() {
        String d = "<!DOCTYPE a [<!ENTITY e '" + ">".repeat(999) + "'>]><a>" + "&e;".repeat(65) + ">".repeat(598);
        MarkupJudge x = Check.formed("<b/>");
        Check.due("a product", x.canonical(), 7);
        Check.judge(x, d + "xxxxx</a>");
        Check.due("no fault", x.fault(), 0);
        Check.due("65533 times 4, 7 and 5", x.canonical(), 262144);
        Check.due("its last byte", x.out(262143), '>');
        Check.due("behind it", x.out(262144), NONE);
        Check.due("too long for back()", x.back(), NONE);
        Check.judge(x, "<b/>");
        Check.due("a product", x.canonical(), 7);
        Check.judge(x, d + "xxxxxx</a>");
        Check.due("too long", x.canonical(), -4);
        Check.due("the old one stays", new String(Check.product(x)), "<b></b>");
        Check.due("too long", x.canonical(), -4);
        Check.due("steady", x.steady() ? 1 : 0, 1);
        Check.due("back() of the old one", x.back(), 7);
        Check.due("judge()", x.judge(), 1);
        Check.due("a product again", x.canonical(), 7);
        // refused while namespaces are open: the next one is not harmed
        String p = "<!DOCTYPE a [<!ENTITY e '" + ">".repeat(2000) + "'>]><a xmlns='u:1' xmlns:p='u:2'><b>" + "&e;".repeat(34) + "</b></a>";
        x = new MarkupJudge(0, 0);
        Check.judge(x, p);
        Check.due("too long", x.canonical(), -4);
        Check.due("too long", x.canonical(), -4);
        Check.judge(x, "<a xmlns='u:1' xmlns:p='u:2'/>");
        Check.due("all is written", Check.canonical(x), "<a xmlns=\"u:1\" xmlns:p=\"u:2\"></a>");
    }

    private static void productsThatGoBack() {
        String d = "<!DOCTYPE a [<!ENTITY e '" + "x".repeat(1000) + "'>]><a>" + "&e;".repeat(65);
        MarkupJudge x = Check.formed(d + "x".repeat(529) + "</a>");
        Check.due("the longest that goes back", x.canonical(), 65536);
        Check.due("the longest that goes back", x.back(), 65536);
        Check.due("judged", x.judge(), 1);
        Check.due("counted", x.counted(), 65536);
        Check.judge(x, d + "x".repeat(530) + "</a>");
        Check.due("one more", x.canonical(), 65537);
        x.feed(0x3C622F3E, 0, 0, 0, 0);
        Check.due("does not go back", x.back(), NONE);
        Check.due("what came in stays", x.end(4), 20);
        Check.due("judged", x.judge(), 1);
        Check.due("what came in", Check.name(x, 0), "b");
    }

    /** Values by default that are long and come often are written, and looked at, no oftener than needed. */
    private static void longDefaults() {
        String d = "<!DOCTYPE a [<!ATTLIST b xmlns CDATA 'u:" + "x".repeat(1000) + "' r IDREFS '" + "x ".repeat(1000) + "'><!ENTITY e '" + "<b/>".repeat(500) + "'>]><a>";
        MarkupJudge x = Check.formed(d + "&e;".repeat(10) + "</a>");
        Check.due("words", x.violations(12), 5000 * 1000);
        Check.due("too long", x.canonical(), -4);
        for (int i = 0; i < 100; i++) {
            x.canonical();
        }
        x = Check.formed(d + "</a>");
        Check.due("none came", x.violations(12), 0);
        Check.due("short", x.canonical(), 7);
    }

    /**
     * What an object answers behind its 512th call is free, but no call may ever throw by itself or fail to end: rows that
     * can't be fed in fewer calls, as deep, long and many as 65536 bytes allow.
     */
    private static void beyondItsCalls() {
        String d = "<!DOCTYPE a [";
        StringBuilder entities = new StringBuilder(d + "<!ENTITY e0 '<b/>'>");
        for (int i = 1; i <= 2000; i++) {
            entities.append("<!ENTITY e").append(i).append(" '&e").append(i - 1).append(";'>");
        }
        StringBuilder tokens = new StringBuilder(d + "<!ATTLIST a b (A");
        StringBuilder attributes = new StringBuilder("<a");
        for (int c = 0; c < 16000; c++) {
            tokens.append('|').append((char) (0x4E00 + c));
            attributes.append(c < 9000 ? " " + (char) (0x4E00 + c) + "=''" : "");
        }
        String[] texts = {"<a>".repeat(9000) + "</a>".repeat(9000), "<a>".repeat(21000), "<a/>".repeat(16000), "<a>" + "<b/>".repeat(16380) + "</a>",
            d + "<!ELEMENT a " + "(".repeat(20000) + "b" + ")".repeat(20000) + ">]><a/>", d + "<!ELEMENT a " + "(".repeat(65000), entities + "]><a>&e2000;</a>",
            tokens + ") #IMPLIED>]><a b='\u4E01'/>", attributes + "/>", "<a>" + "&#62;".repeat(13000) + "</a>", "%".repeat(65500), "<a>" + "&".repeat(65500),
            d + "<!ATTLIST b c IDREFS '" + "x ".repeat(9000) + "'>]><a>" + "<b/>".repeat(10000) + "</a>"};
        MarkupJudge x = new MarkupJudge(0, 0);
        for (String text : texts) {
            byte[] narrow = Check.utf8(text);
            byte[] wide = ("\ufeff" + text).getBytes(StandardCharsets.UTF_16BE);
            byte[] row = narrow.length <= wide.length ? narrow : wide;
            int answer = Check.judge(x, Arrays.copyOf(row, Math.min(65520, row.length)));
            Check.due("an answer", answer >= 0 && answer <= 2, true);
            x.canonical();
            x.back();
            x.judge();
            x.name(x.elements() - 1, 0);
        }
    }
}
