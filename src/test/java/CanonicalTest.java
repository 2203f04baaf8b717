/** Promises 17 to 20: canonical, out, back, steady. */
public final class CanonicalTest {
    private static final int NONE = MarkupJudge.NONE;
    private static final String XML = "http://www.w3.org/XML/1998/namespace";

    private CanonicalTest() {
    }

    public static void main(String[] args) {
        plain();
        around();
        escapes();
        attributes();
        namespaces();
        refused();
        relative();
        product();
        back();
        steady();
        Check.finish();
    }

    /** The canonical bytes, and that they are their own canonical bytes. */
    private static void due(String text, String want) {
        MarkupJudge x = Check.formed(text);
        Check.due(text, Check.canonical(x), want);
        Check.due(text + " steady()", x.steady() ? 1 : 0, 1);
        if (want.charAt(0) != '-') {
            x = Check.formed(text);
            int n = x.canonical();
            Check.due(text + " back()", x.back(), n);
            Check.due(text + " well formed", x.judge(), 1);
            Check.due(text + " again", Check.canonical(x), want);
        }
    }

    private static void plain() {
        due("<a/>", "<a></a>");
        due("<?xml version='1.0'?>\n<a >x</a >\n", "<a>x</a>");
        due("<a><b/> <!-- x --> <c>y</c></a>", "<a><b></b>  <c>y</c></a>");
        due("<!DOCTYPE a [<!ENTITY e '<b>&f;</b>'><!ENTITY f 'x'>]><a>&e;&f;&lt;</a>", "<a><b>x</b>x&lt;</a>");
        due("<\u00e9>\u00df\u20ac\ud83d\ude00</\u00e9>", "<\u00e9>\u00df\u20ac\ud83d\ude00</\u00e9>");
        due("<!DOCTYPE a [<!ENTITY e ']]'>]><a>&e;></a>", "<a>]]&gt;</a>");
    }

    private static void around() {
        due("<?b?><!-- x --><?c  d e ?> <!DOCTYPE a [<?f?>]><?g?><a/> <?h\n\ni?><!-- x --><?j ??>", "<?b?>\n<?c d e ?>\n<?g?>\n<a></a>\n<?h i?>\n<?j ??>");
        due("<a><?b?> <?c d?></a>", "<a><?b?> <?c d?></a>");
        due("<a><?b   ?><?c & < > \" \t?></a>", "<a><?b?><?c & < > \" \t?></a>");
        due("<!DOCTYPE a [<!ENTITY e '<?b&#13; x&#13;y ?>'>]><a>&e;</a>", "<a><?b x&#xD;y ?></a>");
        due("<a><?\u00e9 \u00e9?></a>", "<a><?\u00e9 \u00e9?></a>");
    }

    private static void escapes() {
        due("<a>&amp;&lt;&gt;&quot;&apos;&#9;&#10;&#13;></a>", "<a>&amp;&lt;&gt;\"'\t\n&#xD;&gt;</a>");
        due("<a><![CDATA[&<>\"\r\n]]></a>", "<a>&amp;&lt;&gt;\"\n</a>");
        due("<a b='&amp;&lt;&gt;&quot;&apos;&#9;&#10;&#13;>\t\n'/>", "<a b=\"&amp;&lt;>&quot;'&#x9;&#xA;&#xD;>  \"></a>");
        due("<a xmlns='u:&amp;&lt;>&quot;&#9;&#10;&#13;'/>", "<a xmlns=\"u:&amp;&lt;>&quot;&#x9;&#xA;&#xD;\"></a>");
        due("<!DOCTYPE a [<!ENTITY e '&#13;&#38;#13;'>]><a b='&e;'>&e;</a>", "<a b=\" &#xD;\">&#xD;&#xD;</a>");
    }

    private static void attributes() {
        due("<a c='1' b='2' ab='3' a='4' B='5'/>", "<a B=\"5\" a=\"4\" ab=\"3\" b=\"2\" c=\"1\"></a>");
        due("<a xml:b='1' c='2' xml:a='3'/>", "<a c=\"2\" xml:a=\"3\" xml:b=\"1\"></a>");
        due("<a xmlns:p='u:2' xmlns:q='u:1' p:a='1' q:b='2' z='3' q:a='4'/>", "<a xmlns:p=\"u:2\" xmlns:q=\"u:1\" z=\"3\" q:a=\"4\" q:b=\"2\" p:a=\"1\"></a>");
        due("<a xmlns:p='u:1' xmlns:q='u:11' q:a='1' p:b='2'/>", "<a xmlns:p=\"u:1\" xmlns:q=\"u:11\" p:b=\"2\" q:a=\"1\"></a>");
        due("<!DOCTYPE a [<!ATTLIST a c CDATA '1' b NMTOKENS ' 2  3 ' e CDATA #IMPLIED>]><a d=' '/>", "<a b=\"2 3\" c=\"1\" d=\" \"></a>");
        // by characters, not by halves of 16 bits
        due("<a \ud800\udc00='1' \uff21='2'/>", "<a \uff21=\"2\" \ud800\udc00=\"1\"></a>");
        StringBuilder many = new StringBuilder("<a");
        StringBuilder sorted = new StringBuilder("<a");
        for (int i = 0; i < 45; i++) {
            many.append(" a").append(1000 + i * 7919 % 45).append("=''");
            sorted.append(" a").append(1000 + i).append("=\"\"");
        }
        due(many.append("/>").toString(), sorted.append("></a>").toString());
    }

    private static void namespaces() {
        due("<a xmlns=''/>", "<a></a>");
        due("<a xmlns='u:1'><b xmlns='u:1'/><c xmlns=''><d xmlns=''/></c></a>", "<a xmlns=\"u:1\"><b></b><c xmlns=\"\"><d></d></c></a>");
        due("<a xmlns:p='u:1'><b xmlns:p='u:1'/><c xmlns:p='u:2'><d xmlns:p='u:1'/></c></a>",
            "<a xmlns:p=\"u:1\"><b></b><c xmlns:p=\"u:2\"><d xmlns:p=\"u:1\"></d></c></a>");
        due("<a><b xmlns:p='u:1'/><c xmlns:p='u:1'/></a>", "<a><b xmlns:p=\"u:1\"></b><c xmlns:p=\"u:1\"></c></a>");
        due("<p:a b='' p:b='' xmlns:q='u:1' xmlns:p='u:1' xmlns='u:1'/>", "<p:a xmlns=\"u:1\" xmlns:p=\"u:1\" xmlns:q=\"u:1\" b=\"\" p:b=\"\"></p:a>");
        due("<a xmlns:xml='" + XML + "' xml:b=''/>", "<a xml:b=\"\"></a>");
        due("<a xmlns:ab='u:1' xmlns:a='u:2' xmlns:b='u:3'/>", "<a xmlns:a=\"u:2\" xmlns:ab=\"u:1\" xmlns:b=\"u:3\"></a>");
        due("<!DOCTYPE a [<!ATTLIST b xmlns CDATA 'u:1'>]><a><b><b/></b><b/></a>", "<a><b xmlns=\"u:1\"><b></b></b><b xmlns=\"u:1\"></b></a>");
        due("<a xmlns='u:1'><b xmlns='u:2'/><c xmlns='u:1'/></a>", "<a xmlns=\"u:1\"><b xmlns=\"u:2\"></b><c></c></a>");
    }

    private static void refused() {
        MarkupJudge x = new MarkupJudge(0, 0);
        Check.due("no document", x.canonical(), NONE);
        String p = "<!DOCTYPE a [<!ENTITY % p ''>%p;]>";
        String[] two = {"<p:a/>", "<a:/>", "<?a:b?><a/>", "<xmlns:a/>", "<a xmlns:p=''/>", "<a xmlns:p='u:1' xmlns:q='u:1' p:a='' q:a=''/>",
            p + "<a:>&x;</a:>", "<p:a xmlns='x'/>"};
        for (String s : two) {
            due(s, "-2");
        }
        due(p + "<a>&x;</a>", "-3");
        due(p + "<a b='&x;'/>", "-3");
        due("<!DOCTYPE a [<!ENTITY % p ''>%p;<!ATTLIST b c CDATA '&x;'>]><a/>", "-3");
        x = Check.formed("<a>x</a>");
        Check.due("a product", x.canonical(), 8);
        String[] others = {"<a", "<p:b/>", "<a xmlns='b'/>"};
        int[] answers = {-1, -2, -3};
        for (int i = 0; i < 3; i++) {
            Check.judge(x, others[i]);
            Check.due("refused", x.canonical(), answers[i]);
            Check.due("the product stays", new String(Check.product(x)), "<a>x</a>");
        }
    }

    private static void relative() {
        String[] good = {"u:", "u:1", "a1+-.:", "http://x/y", "Z:\u00e9", "urn:a:b"};
        String[] bad = {"u", "1:", ":", "/x", "\u00e9:", " u:1", "u 1:", "u_:", "#x", "u1+", "-u:", "u\u00e9:", "x/y:z"};
        for (String s : good) {
            due("<a xmlns='" + s + "'/>", "<a xmlns=\"" + s + "\"></a>");
            due("<a><b xmlns:p='" + s + "'/></a>", "<a><b xmlns:p=\"" + s + "\"></b></a>");
        }
        for (String s : bad) {
            due("<a xmlns='" + s + "'/>", "-3");
            due("<a><b xmlns:p='" + s + "'/></a>", "-3");
        }
        // one that is not written, too
        due("<!DOCTYPE a [<!ATTLIST b xmlns:p CDATA 'x'>]><a xmlns='u:1'><b/></a>", "-3");
        due("<!DOCTYPE a [<!ATTLIST b xmlns:p CDATA 'x'>]><a/>", "<a></a>");
    }

    private static void product() {
        MarkupJudge x = new MarkupJudge(0, 0);
        Check.due("out(0) without one", x.out(0), NONE);
        Check.judge(x, "<a>\u00e9</a>");
        Check.due("out(0) before canonical()", x.out(0), NONE);
        Check.due("canonical()", x.canonical(), 9);
        int[] want = {'<', 'a', '>', 0xC3, 0xA9, '<', '/', 'a', '>', NONE};
        for (int i = 0; i < want.length; i++) {
            Check.due("out(" + i + ")", x.out(i), want[i]);
        }
        Check.due("out(-1)", x.out(-1), NONE);
        Check.due("out(MAX)", x.out(Integer.MAX_VALUE), NONE);
        Check.due("out(MIN)", x.out(Integer.MIN_VALUE), NONE);
        Check.judge(x, "<b/>");
        Check.due("judge() leaves it", x.out(1), 'a');
        Check.due("the next one", x.canonical(), 7);
        Check.due("is the latest", x.out(1), 'b');
        Check.due("and shorter", x.out(7), NONE);
    }

    private static void back() {
        MarkupJudge x = new MarkupJudge(0, 0);
        x.feed(1, 2, 3, 4, 5);
        Check.due("back() without a product", x.back(), NONE);
        Check.due("changes nothing", x.end(0), 20);
        Check.judge(x, "<a><b c='d'/></a>");
        Check.due("back() before canonical()", x.back(), NONE);
        Check.due("canonical()", x.canonical(), 20);
        x.feed(1, 2, 3, 4, 5);
        Check.due("back()", x.back(), 20);
        Check.due("the document stays", x.elements(), 2);
        Check.due("the product stays", x.out(19), '>');
        Check.due("in place of what did", x.end(20), 20);
        Check.due("it can be changed", x.change(1, 'x'), 'a');
        Check.due("not the product", x.out(1), 'a');
        x.end(18);
        x.feed(0x783E0000, 0, 0, 0, 0);
        x.end(20);
        Check.due("and added to", x.judge(), 1);
        Check.due("another name", x.name(0, 0), 'x');
        Check.due("back() again", x.back(), 20);
        Check.due("judged", x.judge(), 1);
        Check.due("the first name", x.name(0, 0), 'a');
    }

    private static void steady() {
        MarkupJudge x = new MarkupJudge(64, 16);
        Check.due("without anything", x.steady() ? 1 : 0, 1);
        String[] texts = {"<a", "<p:a/>", "<a xmlns='x'/>", "<a>x</a>", ""};
        for (String s : texts) {
            Check.judge(x, s);
            Check.due("steady() of " + s, x.steady() ? 1 : 0, 1);
            x.canonical();
            Check.due("steady() of " + s, x.steady() ? 1 : 0, 1);
            x.back();
            Check.due("steady() of " + s, x.steady() ? 1 : 0, 1);
        }
    }
}
