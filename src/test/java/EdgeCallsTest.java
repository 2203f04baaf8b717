/** The edges of each call, promise by promise: the least and the most that it takes, one beyond, and what is refused and changes nothing. */
public final class EdgeCallsTest {
    private static final int NONE = MarkupJudge.NONE;
    private static final int[] FAR = {-1, -2, -256, 65536, 1 << 20, Integer.MIN_VALUE, Integer.MIN_VALUE + 1, Integer.MAX_VALUE, Integer.MAX_VALUE - 1};
    /** One of each kind: valid, well formed, not fit for canonical bytes in two ways, faulty, none. */
    private static final String[] TEXTS = {"<!DOCTYPE a [<!ELEMENT a (#PCDATA)>]><a>x</a>", "<a b='c'>d<e/></a>", "<p:a>q</p:a>", "<a xmlns='x'/>", "<a", ""};
    private static final int[] JUDGED = {0, 1, 1, 1, 2, 2};

    private EdgeCallsTest() {
    }

    public static void main(String[] args) {
        newObject();
        feedOrder();
        feedLimit();
        endEdges();
        changeEdges();
        judgeUsesUp();
        judgeAnswers();
        judgeBehindAnother();
        judgeBehindMany();
        faultAndPlace();
        violationsEdges();
        spacesEdges();
        elementsEdges();
        namesEdges();
        attributeEdges();
        charactersAndCounted();
        canonicalAnswers();
        outEdges();
        backEdges();
        backLeaves();
        steadyEver();
        refusedChangesNothing();
        withoutADocument();
        Check.finish();
    }

    private static void newObject() {
        Check.says("No bytes, no document.");
        int[] numbers = {0, 64, 98304, -1, Integer.MAX_VALUE};
        for (int n : numbers) {
            MarkupJudge x = new MarkupJudge(n, n);
            Check.due("no bytes", x.end(0), 0);
            Check.due("no bytes", x.change(0, 0), NONE);
            noDocument("new", x);
            Check.due("no fault", x.fault(), 0);
            Check.due("no place", x.place(), NONE);
            Check.due("no product", x.out(0), NONE);
            Check.due("no product", x.back(), NONE);
            Check.due("nothing to judge", x.judge(), 2);
            Check.due("the text ends before the root", x.fault(), 6);
            Check.due("at its end", x.place(), 0);
        }
    }

    private static void noDocument(String told, MarkupJudge x) {
        Check.due(told + " violations(0)", x.violations(0), NONE);
        Check.due(told + " violations(22)", x.violations(22), NONE);
        Check.due(told + " spaces(0)", x.spaces(0), NONE);
        Check.due(told + " spaces(5)", x.spaces(5), NONE);
        Check.due(told + " elements()", x.elements(), 0);
        Check.due(told + " attributes(0)", x.attributes(0), NONE);
        Check.due(told + " parent(0)", x.parent(0), NONE);
        Check.due(told + " parent(1)", x.parent(1), NONE);
        Check.due(told + " name(0, 0)", x.name(0, 0), NONE);
        Check.due(told + " attribute(0, 0, 0, 0)", x.attribute(0, 0, 0, 0), NONE);
        Check.due(told + " attribute(0, 0, 1, 0)", x.attribute(0, 0, 1, 0), NONE);
        Check.due(told + " characters()", x.characters(), 0);
        Check.due(told + " counted()", x.counted(), 0);
        Check.due(told + " canonical()", x.canonical(), NONE);
        Check.due(told + " steady()", x.steady(), true);
    }

    private static void feedOrder() {
        Check.says("Twenty bytes come behind those that came in, the highest byte of each int first.");
        int[][] fives = {{0x01020304, 0x05060708, 0x090A0B0C, 0x0D0E0F10, 0x11121314}, {0, -1, Integer.MIN_VALUE, Integer.MAX_VALUE, 0x80FF7F00}, {-2, 1, 255, 256, -256}};
        MarkupJudge x = new MarkupJudge(0, 0);
        int n = 0;
        for (int[] five : fives) {
            x.feed(five[0], five[1], five[2], five[3], five[4]);
            for (int i = 0; i < 20; i++) {
                int want = five[i / 4] >>> 24 - 8 * (i % 4) & 255;
                Check.due("byte " + n, x.change(n, want), want);
                n++;
            }
            Check.due("no more", x.change(n, 0), NONE);
        }
        Check.due("three times twenty", x.end(60), 60);
        // behind a cut, too
        x.end(1);
        x.feed(fives[0][0], 0, 0, 0, 0);
        Check.due("the first one stays", x.change(0, 0), 1);
        Check.due("behind it", x.change(1, 0), 1);
        Check.due("behind it", x.change(4, 0), 4);
        Check.due("no more", x.change(21, 0), NONE);
    }

    /** A judge with so many bytes that came in, by few calls: they are the product of a document. */
    private static MarkupJudge loaded(int bytes) {
        MarkupJudge x = new MarkupJudge(0, 0);
        String before = "<!DOCTYPE a [<!ENTITY e '" + "y".repeat(1000) + "'>]><a>";
        Check.due("loaded", Check.judge(x, before + "&e;".repeat((bytes - 7) / 1000) + "z".repeat((bytes - 7) % 1000) + "</a>"), 1);
        Check.due("loaded", x.canonical(), bytes);
        Check.due("loaded", x.back(), bytes);
        return x;
    }

    private static void feedLimit() {
        Check.says("IllegalStateException: there would be more than 65536.");
        int[] counts = {65495, 65496, 65497, 65514, 65515, 65516, 65517, 65518, 65535, 65536};
        for (int n : counts) {
            MarkupJudge x = loaded(n);
            int held = n;
            for (int turn = 0; turn < 3; turn++) {
                boolean over = held + 20 > 65536;
                Check.due(held + " and twenty", Check.feedThrows(x), over);
                held += over ? 0 : 20;
                int last = held == n ? '>' : 'a';
                Check.due("the last one of " + held, x.change(held - 1, last), last);
            }
            Check.due("behind the last one", x.change(held, 0), NONE);
            Check.due("so many came in", x.end(0), held);
            Check.due("there is room again", Check.feedThrows(x), false);
            Check.due("there is room again", x.end(0), 20);
        }
        MarkupJudge x = loaded(65536);
        Check.due("full", Check.feedThrows(x), true);
        Check.due("cut by nineteen", x.end(65517), 65536);
        Check.due("still full", Check.feedThrows(x), true);
        Check.due("cut by twenty", x.end(65516), 65517);
        Check.due("not full", Check.feedThrows(x), false);
        Check.due("the last one", x.change(65535, 0), 'a');
        Check.due("full", Check.feedThrows(x), true);
        x.judge();
        Check.due("used up", Check.feedThrows(x), false);
        // full, and judged
        x = loaded(65536);
        Check.due("judged", x.judge(), 1);
        Check.due("all of it", x.counted(), 65536);
    }

    private static void endEdges() {
        Check.says("IllegalArgumentException: there are not so many, or n is below 0.");
        int[] counts = {0, 1, 19, 20, 65536};
        for (int n : counts) {
            MarkupJudge x = n == 65536 ? loaded(n) : new MarkupJudge(0, 0);
            if (n > 0 && n < 65536) {
                x.feed(0x3C612F3E, 0, 0, 0, 0);
                Check.due("cut", x.end(n), 20);
            }
            int[] wrong = {n + 1, n + 2, n + 20, -1, -2, -n - 1, Integer.MIN_VALUE, Integer.MAX_VALUE};
            for (int k : wrong) {
                Check.due("end(" + k + ") of " + n, Check.endThrows(x, k), true);
            }
            Check.due("end(" + n + ") of " + n, x.end(n), n);
            Check.due("again", x.end(n), n);
            if (n > 0) {
                Check.due("one less", x.end(n - 1), n);
                Check.due("it is gone", x.change(n - 1, 0), NONE);
                Check.due("it can't come again", Check.endThrows(x, n), true);
                Check.due("none", x.end(0), n - 1);
            }
            Check.due("end(0) of none", x.end(0), 0);
            Check.due("end(1) of none", Check.endThrows(x, 1), true);
        }
    }

    private static void changeEdges() {
        Check.says("One of the bytes that came in becomes another one (0 .. 255). Answers what it was; NONE when there is none such, or b is none.");
        MarkupJudge x = new MarkupJudge(0, 0);
        int[] bytes = {0, 1, 127, 128, 254, 255};
        for (int b : bytes) {
            Check.due("none came in", x.change(0, b), NONE);
        }
        x.feed(0, 0, 0, 0, 0);
        for (int at = 0; at < 20; at += 19) {
            int before = 0;
            for (int b : bytes) {
                Check.due("byte " + at + " becomes " + b, x.change(at, b), before);
                before = b;
            }
            int[] no = {256, 257, 511, 512, 65536, -1, -128, -255, -256, Integer.MIN_VALUE, Integer.MAX_VALUE};
            for (int b : no) {
                Check.due("byte " + at + " can't become " + b, x.change(at, b), NONE);
                Check.due("it stays", x.change(at, 255), 255);
            }
        }
        int[] places = {-1, -20, 20, 21, 65535, 65536, Integer.MIN_VALUE, Integer.MAX_VALUE};
        for (int at : places) {
            Check.due("there is no byte " + at, x.change(at, 0), NONE);
            Check.due("nor for a wrong one", x.change(at, 256), NONE);
        }
        x.end(19);
        Check.due("cut off", x.change(19, 0), NONE);
        Check.due("the last one", x.change(18, 0), 0);
        x = loaded(65536);
        Check.due("the last one of all", x.change(65535, 0), '>');
        Check.due("none behind it", x.change(65536, 0), NONE);
        Check.due("the product has its own", x.out(65535), '>');
    }

    private static void judgeUsesUp() {
        Check.says("The bytes that came in are used up.");
        for (int i = 0; i < TEXTS.length; i++) {
            MarkupJudge x = new MarkupJudge(0, 0);
            Check.due(TEXTS[i], Check.judge(x, TEXTS[i]), JUDGED[i]);
            Check.due("none is left", x.change(0, 0), NONE);
            Check.due("none is left", x.end(0), 0);
            Check.due("nothing to judge", x.judge(), 2);
            Check.due("the text ends before the root", x.fault(), 6);
            Check.due("at its end", x.place(), 0);
            noDocument("then", x);
        }
    }

    private static void judgeAnswers() {
        Check.says("Answers 0: a valid document, 1: a well-formed one; in both cases it is the document at hand then. 2: neither; there is no document at hand then.");
        // each document behind each other one
        for (int first = 0; first < TEXTS.length; first++) {
            MarkupJudge x = new MarkupJudge(0, 0);
            for (int second = 0; second < TEXTS.length; second++) {
                Check.due(TEXTS[first], Check.judge(x, TEXTS[first]), JUDGED[first]);
                Check.due(TEXTS[second], Check.judge(x, TEXTS[second]), JUDGED[second]);
                Check.due("at hand", x.elements() > 0, JUDGED[second] < 2);
                Check.due("violations", x.violations(0), JUDGED[second] == 2 ? NONE : second == 0 ? 0 : 1);
                Check.due("fault", x.fault(), JUDGED[second] < 2 ? 0 : second == 4 ? 5 : 6);
            }
        }
        // what comes in meanwhile leaves it
        MarkupJudge x = Check.formed(TEXTS[1]);
        Check.due("a product", x.canonical(), 21);
        String before = Check.state(x);
        x.feed(1, 2, 3, 4, 5);
        x.change(0, 9);
        x.end(0);
        Check.due("the document stays", Check.state(x), before);
    }

    /** Each document behind each other one is judged as by a new object. */
    private static void judgeBehindAnother() {
        Check.says("in both cases it is the document at hand then");
        String d = "<!DOCTYPE a [";
        String p = "<!ENTITY % p ''>%p;";
        String[] texts = {"", "<a/>", "<a", "\u0001", "x\r", "\n<a/>", "<?xml version='1.0' standalone='yes'?>" + d + p + "]><a/>", d + p + "]><a>&x;</a>", d + "]><a>&x;</a>",
            d + "<!ENTITY x 'y'>]><a b='&x;'>&x;</a>", d + "<!ENTITY % x ' '>%x;]><a/>", d + "<!ELEMENT a EMPTY>]><a/>", d + "<!ELEMENT a (b,c)><!ELEMENT a ANY>]><a><b/></a>",
            d + "<!ELEMENT a (#PCDATA|b|b)*>]><a><b/>x</a>", d + "<!ATTLIST a b ID 'x' c NOTATION (n|n) #IMPLIED>]><a/>", d + "<!ATTLIST a b CDATA #REQUIRED>", d + "<!NOTATION n SYSTEM ''>]><a/>",
            d + "<!NOTATION n SYSTEM ''><!NOTATION n SYSTEM ''>]><a b=' x '/>", "<a xmlns='u:1' xmlns:p='u:2'><p:b p:c=''/></a>", "<p:a p:c=''/>", "<xmlns:a xmlns:xml=''/>", "<?p:q?><a:/><?r?>",
            d + "<!ENTITY e '<b>'>]><a>&e;</a>", d + "<!ENTITY e '&e;'>]><a>&e;</a>", d + "<!ENTITY % e ']'>%e;]><a/>", d, "<a><b><c>", "<a b='' b=''/>", "<a b='&x;'/>", "<a xmlns='x'/>"};
        String[] alone = new String[texts.length];
        for (int i = 0; i < texts.length; i++) {
            MarkupJudge x = new MarkupJudge(512, 32);
            alone[i] = Check.judge(x, texts[i]) + " " + Check.state(x) + " " + x.canonical();
        }
        for (int first = 0; first < texts.length; first++) {
            for (int second = 0; second < texts.length; second++) {
                MarkupJudge x = new MarkupJudge(512, 32);
                Check.judge(x, texts[first]);
                int answer = Check.judge(x, texts[second]);
                Check.due(texts[second] + " behind " + texts[first], answer + " " + Check.state(x) + " " + x.canonical(), alone[second]);
            }
        }
    }

    /** In the smallest room, where what one took and did not leave would soon be missing for the next. */
    private static void judgeBehindMany() {
        Check.says("The bytes that came in are used up.", "there is no document at hand then");
        String d = "<!DOCTYPE a[";
        String[] texts = {d + "<!ENTITY e# 'x'>]><a>&e#;&e#;</a>", d + "<!ENTITY % p# ''>%p#;%p#;]><a/>", d + "<!ELEMENT a# ANY>]><a#/>", d + "<!ATTLIST a b# ID 'i#'>]><a/>",
            d + "<!ATTLIST a b (t#|u#|v#|w#) 'u#'>]><a/>", d + "<!NOTATION n# SYSTEM ''>]><a/>", "<a b#='v#' c#='w#' d#='x#'/>", "<a#><b#/><?c#?><d#></d#></a#>", "<p#:a xmlns:p#='u:#'/>",
            "<a#><b#><c#>x", "<a b#='' b#=''/>", d + "<!ENTITY e '&e;'>]><a>#&e;</a>", d + "<!ENTITY e '&#38;f;'>]><a b='&e;#'/>", d + "<!ELEMENT a (b#,(c#|d#)*)>]><a/>", "<a>" + "<b/>".repeat(12) + "#</a>"};
        for (String text : texts) {
            MarkupJudge x = new MarkupJudge(64, 16);
            for (int i = 10; i < 40; i++) {
                String next = text.replace("&#38;", "&?38;").replace("#", Integer.toString(i)).replace("&?38;", "&#38;");
                Check.due(next + " behind others", brief(x, next), brief(new MarkupJudge(64, 16), next));
            }
        }
    }

    private static String brief(MarkupJudge x, String text) {
        int answer = Check.judge(x, text);
        return answer + " " + x.fault() + " " + x.place() + " " + x.violations(8) + " " + x.elements() + " " + x.characters() + " " + x.counted() + " " + x.name(0, 1) + " " + x.canonical();
    }

    private static void faultAndPlace() {
        Check.says("The fault of the last judge(): 1 .. 14; 0 when it found none, or there was none.", "Its place; NONE when there is none.");
        String d = "<!DOCTYPE a [";
        String[] texts = {"<a>\u0001", "<?xml version='1.0' encoding='x'?><a/>", "<!DOCTYPE a SYSTEM ''><a/>", "", "<a", "<a>", "<a></b>", "<a b='' b=''/>", "<a>&x;</a>",
            d + "<!ENTITY e '&e;'>]><a>&e;</a>", d + "<!ENTITY e '<'>]><a b='&e;'/>", "<a>x&#0;</a>", d + "<!ENTITY e '%x;'>]><a/>", d + "<!ENTITY e '<b>'>]><a>&e;</a>"};
        int[] places = {3, 0, 0, 0, 0, 3, 3, 0, 3, 35, 30, 4, 13, 35};
        MarkupJudge x = new MarkupJudge(64, 16);
        Check.due("no judge() yet", x.fault(), 0);
        Check.due("no judge() yet", x.place(), NONE);
        for (int i = 0; i < texts.length; i++) {
            String text = i == 3 ? "<a>" + " ".repeat(58) + "</a>" : texts[i];
            Check.due(text, Check.judge(x, text), 2);
            Check.due(text, x.fault(), i + 1);
            Check.due(text, x.place(), places[i]);
            Check.due(text + " asked again", x.fault() * 100 + x.place(), (i + 1) * 100 + places[i]);
            x.feed(1, 2, 3, 4, 5);
            x.change(0, 1);
            x.end(3);
            x.canonical();
            x.back();
            x.steady();
            Check.due(text + " stays", x.fault(), i + 1);
            Check.due(text + " stays", x.place(), places[i]);
            Check.due("none", Check.judge(x, "<a/>"), 1);
            Check.due("none", x.fault(), 0);
            Check.due("none", x.place(), NONE);
        }
    }

    private static void violationsEdges() {
        Check.says("How many violations of constraint k (0 .. 22) the document at hand has; NONE when there is no such, or no document.");
        for (int i = 0; i < TEXTS.length; i++) {
            MarkupJudge x = new MarkupJudge(0, 0);
            Check.judge(x, TEXTS[i]);
            for (int k = 0; k < 23; k++) {
                Check.due("violations(" + k + ")", x.violations(k), JUDGED[i] == 2 ? NONE : k == 0 && i > 0 ? 1 : 0);
            }
            Check.due("violations(23)", x.violations(23), NONE);
            for (int k : FAR) {
                Check.due("violations(" + k + ")", x.violations(k), NONE);
            }
        }
        MarkupJudge x = Check.formed("<!DOCTYPE a [<!ENTITY % p ''>%p;]><a>&x;</a>");
        Check.due("the last one of them", x.violations(22), 1);
    }

    private static void spacesEdges() {
        Check.says("How many violations k (0 .. 5) of namespaces it has; NONE as for violations().");
        for (int i = 0; i < TEXTS.length; i++) {
            MarkupJudge x = new MarkupJudge(0, 0);
            Check.judge(x, TEXTS[i]);
            for (int k = 0; k < 6; k++) {
                Check.due("spaces(" + k + ")", x.spaces(k), JUDGED[i] == 2 ? NONE : k == 1 && i == 2 ? 1 : 0);
            }
            Check.due("spaces(6)", x.spaces(6), NONE);
            for (int k : FAR) {
                Check.due("spaces(" + k + ")", x.spaces(k), NONE);
            }
        }
        Check.due("the first one of them", Check.formed("<a:/>").spaces(0), 1);
        Check.due("the last one of them", Check.formed("<?a:b?><a/>").spaces(5), 1);
    }

    private static void elementsEdges() {
        Check.says("How many attributes (as in ELEMENTS) element e (0 .. in the order of tags) has; NONE when there is none such.",
            "In which element element e stands; NONE for the root, and when there is none such.");
        int[] sizes = {1, 2, 16};
        for (int n : sizes) {
            MarkupJudge x = new MarkupJudge(0, 0);
            Check.judge(x, "<a>" + "<b c=''/>".repeat(n - 1) + "</a>");
            Check.due("elements()", x.elements(), n);
            Check.due("attributes(0)", x.attributes(0), 0);
            Check.due("parent(0)", x.parent(0), NONE);
            if (n > 1) {
                Check.due("attributes of the last", x.attributes(n - 1), 1);
                Check.due("parent of the last", x.parent(n - 1), 0);
            }
            Check.due("attributes behind the last", x.attributes(n), NONE);
            Check.due("parent behind the last", x.parent(n), NONE);
            for (int e : FAR) {
                Check.due("attributes(" + e + ")", x.attributes(e), NONE);
                Check.due("parent(" + e + ")", x.parent(e), NONE);
            }
        }
        // what was there before is no element now
        MarkupJudge x = new MarkupJudge(0, 0);
        Check.judge(x, "<a><b c=''><d/></b></a>");
        Check.judge(x, "<e/>");
        Check.due("elements()", x.elements(), 1);
        Check.due("attributes(1)", x.attributes(1), NONE);
        Check.due("parent(1)", x.parent(1), NONE);
        Check.due("name(1, 0)", x.name(1, 0), NONE);
        Check.due("attribute(1, 0, 0, 0)", x.attribute(1, 0, 0, 0), NONE);
        deepest();
    }

    private static void deepest() {
        MarkupJudge x = new MarkupJudge(0, 16);
        Check.judge(x, "<a>".repeat(16) + "</a>".repeat(16));
        for (int e = 0; e < 16; e++) {
            Check.due("parent(" + e + ")", x.parent(e), e == 0 ? NONE : e - 1);
        }
        Check.due("parent(16)", x.parent(16), NONE);
    }

    private static void namesEdges() {
        Check.says("Character i of the name of element e; NONE when there is none such.");
        MarkupJudge x = Check.formed("<a><bcd/><\ud800\udc00e/></a>");
        int[] sizes = {1, 3, 2};
        for (int e = 0; e < 3; e++) {
            Check.due("the first one", x.name(e, 0), new int[] {'a', 'b', 65536}[e]);
            Check.due("the last one", x.name(e, sizes[e] - 1), new int[] {'a', 'd', 'e'}[e]);
            Check.due("behind it", x.name(e, sizes[e]), NONE);
            for (int i : FAR) {
                Check.due("name(" + e + ", " + i + ")", x.name(e, i), NONE);
                Check.due("name(" + i + ", " + e + ")", x.name(i, e), NONE);
            }
        }
        Check.due("name(3, 0)", x.name(3, 0), NONE);
    }

    private static void attributeEdges() {
        Check.says("Character i of the name (what = 0) or value (1) of attribute a of element e; NONE when there is none such.");
        MarkupJudge x = Check.formed("<!DOCTYPE a [<!ATTLIST a f CDATA 'gh'>]><a b='' cd='ef'><b i='j'/><c/></a>");
        int[] many = {3, 1, 0};
        for (int e = 0; e < 3; e++) {
            Check.due("attributes", x.attributes(e), many[e]);
            for (int what = 0; what < 2; what++) {
                Check.due("behind the last attribute", x.attribute(e, many[e], what, 0), NONE);
                Check.due("before the first one", x.attribute(e, -1, what, 0), NONE);
            }
        }
        Check.due("name", x.attribute(0, 0, 0, 0), 'b');
        Check.due("behind it", x.attribute(0, 0, 0, 1), NONE);
        Check.due("empty value", x.attribute(0, 0, 1, 0), NONE);
        Check.due("the last one", x.attribute(0, 1, 0, 1), 'd');
        Check.due("behind it", x.attribute(0, 1, 0, 2), NONE);
        Check.due("value", x.attribute(0, 1, 1, 1), 'f');
        Check.due("behind it", x.attribute(0, 1, 1, 2), NONE);
        Check.due("by default", x.attribute(0, 2, 0, 0), 'f');
        Check.due("by default", x.attribute(0, 2, 1, 1), 'h');
        Check.due("of another element", x.attribute(1, 0, 1, 0), 'j');
        Check.due("what = -1", x.attribute(0, 1, -1, 0), NONE);
        Check.due("what = 2", x.attribute(0, 1, 2, 0), NONE);
        Check.due("element 3", x.attribute(3, 0, 0, 0), NONE);
        for (int n : FAR) {
            Check.due("attribute(" + n + ", 0, 0, 0)", x.attribute(n, 0, 0, 0), NONE);
            Check.due("attribute(0, " + n + ", 0, 0)", x.attribute(0, n, 0, 0), NONE);
            Check.due("attribute(0, 1, " + n + ", 0)", x.attribute(0, 1, n, 0), NONE);
            Check.due("attribute(0, 1, 0, " + n + ")", x.attribute(0, 1, 0, n), NONE);
            Check.due("attribute(0, 1, 1, " + n + ")", x.attribute(0, 1, 1, n), NONE);
            Check.due("attribute(1, " + n + ", 1, 0)", x.attribute(1, n, 1, 0), NONE);
        }
    }

    private static void charactersAndCounted() {
        Check.says("How many characters of the document at hand stand in elements: in runs, sections, and as what references mean; 0 without one.",
            "How many characters were counted for ROOM for the document at hand; 0 without one.");
        String[] texts = {"<a/>", "<a></a>", " <a b='xyz'><!--x--><?p q?></a> ", "<a>x</a>", "<a><![CDATA[]]></a>", "<a><![CDATA[x]]>&lt;&#32;y</a>", "<a>\r\n</a>"};
        int[] characters = {0, 0, 0, 1, 0, 4, 1};
        int[] counted = {4, 7, 32, 8, 19, 30, 8};
        MarkupJudge x = new MarkupJudge(64, 16);
        for (int i = 0; i < texts.length; i++) {
            Check.due(texts[i], Check.judge(x, texts[i]), 1);
            Check.due(texts[i] + " characters()", x.characters(), characters[i]);
            Check.due(texts[i] + " counted()", x.counted(), counted[i]);
            Check.judge(x, texts[i] + "x");
            Check.due("without one", x.characters(), 0);
            Check.due("without one", x.counted(), 0);
        }
    }

    private static void canonicalAnswers() {
        Check.says("NONE when there is no document; -2: it has a violation of namespaces; -3: one of constraint 22, or a namespace declaration whose value, not being empty, "
            + "does not begin with a letter below 128, then letters, digits, + - . and then a colon");
        String p = "<!DOCTYPE a [<!ENTITY % p ''>%p;]>";
        String[] two = {"<a:/>", "<p:a/>", "<a xmlns:p='u:1' xmlns:q='u:1' p:b='' q:b=''/>", "<a xmlns:p=''/>", "<xmlns:a/>", "<?a:?><a/>"};
        for (String s : two) {
            Check.due(s, Check.formed(s).canonical(), -2);
        }
        // -2 before -3, in both kinds of -3
        Check.due("-2 before -3", Check.formed(p + "<p:a>&x;</p:a>").canonical(), -2);
        Check.due("-2 before -3", Check.formed("<p:a xmlns='x'/>").canonical(), -2);
        Check.due("-3", Check.formed(p + "<a>&x;</a>").canonical(), -3);
        Check.due("both kinds", Check.formed(p + "<a xmlns='x'>&x;</a>").canonical(), -3);
        Check.due("other violations are none here", Check.formed(p + "<b c=''/>").canonical(), 12);
        for (int c = 33; c < 256; c++) {
            boolean letter = c >= 'a' && c <= 'z' || c >= 'A' && c <= 'Z';
            boolean more = letter || c >= '0' && c <= '9' || c == '+' || c == '-' || c == '.';
            if (c != '<' && c != '&' && c != '\'' && (c < 127 || c > 159)) {
                relative(Check.text(c), false);
                relative(Check.text(c) + ":", letter);
                relative("x" + Check.text(c), c == ':');
                relative("x" + Check.text(c) + ":", more || c == ':');
                relative("x:" + Check.text(c), true);
            }
        }
        relative("", true);
        relative(" ", false);
        relative(":", false);
        relative("x", false);
        relative("x".repeat(300), false);
        relative("x".repeat(300) + ":", true);
    }

    private static void relative(String value, boolean good) {
        MarkupJudge x = new MarkupJudge(512, 16);
        Check.due(value, Check.judge(x, "<a xmlns='" + value + "'/>"), 1);
        Check.due("as " + value, x.canonical() > 0, good);
        Check.due("as " + value, x.canonical() == -3, !good);
    }

    private static void outEdges() {
        Check.says("Byte i of the product, the latest one (judge(), and a canonical() that is refused, leave it); NONE when there is none such.");
        MarkupJudge x = new MarkupJudge(0, 0);
        Check.due("none yet", x.out(0), NONE);
        Check.judge(x, "<a>\u00ff</a>");
        Check.due("none before canonical()", x.out(0), NONE);
        Check.due("nine", x.canonical(), 9);
        Check.due("the first one", x.out(0), '<');
        Check.due("above 127", x.out(3), 195);
        Check.due("above 127", x.out(4), 191);
        Check.due("the last one", x.out(8), '>');
        Check.due("behind it", x.out(9), NONE);
        for (int i : FAR) {
            Check.due("out(" + i + ")", x.out(i), NONE);
        }
        Check.judge(x, "<bc/>");
        Check.due("judge() leaves it", x.out(1), 'a');
        Check.due("nine", x.canonical(), 9);
        Check.due("the latest one", x.out(2), 'c');
        Check.judge(x, "<d/>");
        Check.due("seven", x.canonical(), 7);
        Check.due("the last one", x.out(6), '>');
        Check.due("the longer one is gone", x.out(7), NONE);
    }

    private static void backEdges() {
        Check.says("The product, which stays, as does the document at hand, is what came in, in place of what did. Answers how many bytes; NONE when it has more than 65536, or none.");
        MarkupJudge x = new MarkupJudge(0, 0);
        Check.due("none", x.back(), NONE);
        Check.judge(x, "<a>x</a>");
        Check.due("none yet", x.back(), NONE);
        x.feed(1, 2, 3, 4, 5);
        Check.due("none yet", x.back(), NONE);
        Check.due("what came in stays", x.end(20), 20);
        Check.due("a product", x.canonical(), 8);
        Check.due("goes back", x.back(), 8);
        Check.due("in place of twenty", x.end(8), 8);
        Check.due("the product stays", x.out(7), '>');
        Check.due("the document stays", x.characters(), 1);
        Check.due("again", x.back(), 8);
        Check.due("once, not behind itself", x.end(8), 8);
        Check.due("change what came in", x.change(3, 'y'), 'x');
        Check.due("not the product", x.out(3), 'x');
        Check.due("judged", x.judge(), 1);
        Check.due("back() once more", x.back(), 8);
        Check.due("as it was", x.change(3, 'z'), 'x');
        // in place of none, and of more
        x.end(0);
        Check.due("in place of none", x.back(), 8);
        Check.due("eight", x.end(8), 8);
        x.feed(1, 2, 3, 4, 5);
        Check.due("behind it", x.end(28), 28);
        Check.due("a judge() that finds no document leaves it", x.judge(), 2);
        Check.due("eight", x.back(), 8);
    }

    /** Without what came in, which is other bytes then. */
    private static String withoutBytes(MarkupJudge x) {
        String told = Check.state(x);
        return told.substring(0, told.indexOf(" in "));
    }

    private static void backLeaves() {
        Check.says("The product, which stays, as does the document at hand");
        for (int i = 0; i < TEXTS.length; i++) {
            MarkupJudge x = full(TEXTS[i]);
            String before = withoutBytes(x);
            Check.due("back()", x.back(), 7);
            Check.due("all but the bytes stays", withoutBytes(x), before);
            int answer = x.canonical();
            x = full(TEXTS[i]);
            Check.due("canonical() is the same", x.canonical(), answer);
            before = withoutBytes(x);
            x.back();
            Check.due("also of its own product", withoutBytes(x), before);
        }
    }

    private static void steadyEver() {
        Check.says("They are, ever, whatever was asked before: true; also when there are none.");
        MarkupJudge x = new MarkupJudge(64, 16);
        Check.due("new", x.steady(), true);
        for (String s : TEXTS) {
            Check.judge(x, s);
            x.canonical();
            Check.due("behind others, " + s, x.steady(), true);
        }
        for (String s : TEXTS) {
            x = new MarkupJudge(64, 16);
            Check.judge(x, s);
            Check.due(s, x.steady(), true);
            x.canonical();
            Check.due(s, x.steady(), true);
            x.back();
            Check.due(s, x.steady(), true);
            String before = Check.state(x);
            x.steady();
            Check.due("it changes nothing", Check.state(x), before);
            x.judge();
            Check.due(s, x.steady(), true);
        }
        // canonical bytes that the judge itself has no room for
        x = new MarkupJudge(64, 16);
        Check.judge(x, "<a>" + "&#62;".repeat(11) + "</a>");
        Check.due("longer than the text", x.canonical(), 51);
        Check.judge(x, "<a b='" + "\"".repeat(50) + "'/>");
        Check.due("longer than the room", x.canonical(), 312);
        Check.due("steady", x.steady(), true);
        Check.due("goes back", x.back(), 312);
        Check.due("no room for it", x.judge(), 2);
        Check.due("no room for it", x.fault(), 4);
        Check.due("steady", x.steady(), true);
    }

    /** A judge with a document, a product that is another one's, and bytes that came in. */
    private static MarkupJudge full(String text) {
        MarkupJudge x = new MarkupJudge(0, 0);
        Check.judge(x, "<z/>");
        x.canonical();
        Check.judge(x, text);
        x.feed(0x3C793E3C, 0x2F793E00, 0, 0, -1);
        return x;
    }

    private static void refusedChangesNothing() {
        Check.says("A call that throws, or is refused, changes nothing.");
        for (String text : TEXTS) {
            MarkupJudge x = full(text);
            String before = Check.state(x);
            Check.due("end(21)", Check.endThrows(x, 21), true);
            Check.due("end(-1)", Check.endThrows(x, -1), true);
            Check.due("change(20, 0)", x.change(20, 0), NONE);
            Check.due("change(-1, 0)", x.change(-1, 0), NONE);
            Check.due("change(0, 256)", x.change(0, 256), NONE);
            Check.due("change(0, -1)", x.change(0, -1), NONE);
            Check.due(text + " as before", Check.state(x), before);
            x = full(text);
            int answer = x.canonical();
            if (answer < 0) {
                Check.due(text + " refused", Check.state(x), before);
            } else {
                Check.due(text + " not refused", Check.state(x).equals(before), false);
            }
        }
        // a feed() that throws
        MarkupJudge x = loaded(65517);
        int place = 65516;
        Check.due("feed()", Check.feedThrows(x), true);
        Check.due("as many", x.end(65517), 65517);
        Check.due("the last one", x.change(place, '>'), '>');
        Check.due("the document", x.elements(), 1);
        Check.due("the product", x.out(65516), '>');
        Check.due("judged", x.judge(), 1);
        // a back() that is refused
        x = new MarkupJudge(0, 0);
        Check.judge(x, TEXTS[1]);
        x.feed(0x3C793E3C, 0x2F793E00, 0, 0, -1);
        String before = Check.state(x);
        Check.due("back()", x.back(), NONE);
        Check.due("as before", Check.state(x), before);
    }

    private static void withoutADocument() {
        Check.says("NONE when there is no such, or no document");
        MarkupJudge x = new MarkupJudge(0, 0);
        noDocument("new", x);
        x = new MarkupJudge(0, 0);
        Check.judge(x, "<a b='c'>d<e/></a>");
        Check.judge(x, "<a b='c'>d<e/></a");
        noDocument("after a fault", x);
        x = new MarkupJudge(0, 0);
        Check.judge(x, "<a b='c'>d<e/></a>");
        x.canonical();
        Check.judge(x, "\u0001");
        noDocument("after fault 1", x);
        Check.due("the product stays", x.back(), 21);
        x = new MarkupJudge(64, 16);
        Check.judge(x, "<a b='c'>d<e/></a>");
        Check.judge(x, " ".repeat(65));
        noDocument("after fault 4", x);
    }
}
