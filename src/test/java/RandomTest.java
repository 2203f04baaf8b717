import java.util.Arrays;

/**
 * Made-up documents, the same ones in every run, some of them damaged: no call throws what is not promised, answers agree
 * with one another, a judge that has judged many answers as a new one does, and canonical bytes are their own.
 */
public final class RandomTest {
    private static final int NONE = MarkupJudge.NONE;
    private static final String[] NAMES = {"a", "b", "c", "p:a", "q:b", "xml:c", "a:", "\u00e9"};
    private static final String[] ENTITIES = {"e", "f", "g", "lt", "amp", "e", "f", "g", "lt", "x"};
    private static final String[] VALUES = {"", "a", " a  b ", "1", "u:1", "u:2", "&e;", "&#9;&#10;x", "&f;&lt;", "x&gt;\ty"};
    private static final String[] TYPES = {"CDATA", "ID", "IDREF", "IDREFS", "ENTITY", "ENTITIES", "NMTOKEN", "NMTOKENS", "(a|b|1)", "NOTATION (n|m)"};
    private static final String[] MODELS = {"EMPTY", "ANY", "(#PCDATA)", "(#PCDATA|a|b)*", "(a)", "(a|b)*", "(a?,b*,c)", "((a,b)|(a,c))+", "(a*)*", "(b+|c?)"};
    private static final String[] PIECES = {"<", ">", "&", ";", "'", "\"", "<!", "]]>", "/>", "<a>", "</a>", "%p;", "&e;", "--", "?>", "\u0001", "]>", "<!DOCTYPE a"};

    private static long seed = 20240229;

    private RandomTest() {
    }

    public static void main(String[] args) {
        int[][] sizes = {{0, 0}, {200, 16}, {400, 20}};
        MarkupJudge[] veterans = new MarkupJudge[sizes.length];
        for (int i = 0; i < sizes.length; i++) {
            veterans[i] = new MarkupJudge(sizes[i][0], sizes[i][1]);
        }
        int formed = 0;
        for (int i = 0; i < 900; i++) {
            String text = next(4) == 0 ? damaged(document()) : document();
            int which = i % sizes.length;
            MarkupJudge fresh = new MarkupJudge(sizes[which][0], sizes[which][1]);
            String told = told(fresh, text);
            Check.due(text, told(veterans[which], text), told);
            formed += fresh.fault() == 0 ? 1 : 0;
            agree(fresh, text);
            ownCanonical(veterans[which], text);
        }
        Check.due("enough of them are well formed", formed > 200 && formed < 800 ? 1 : 0, 1);
        Check.finish();
    }

    private static int next(int bound) {
        seed = seed * 6364136223846793005L + 1442695040888963407L;
        return (int) ((seed >>> 33) % bound);
    }

    private static String of(String[] row) {
        return row[next(row.length)];
    }

    private static String name() {
        return next(5) == 0 ? of(NAMES) : NAMES[next(3)];
    }

    private static String document() {
        StringBuilder s = new StringBuilder(next(8) == 0 ? "<?xml version='1.0'?>" : "");
        if (next(4) > 0) {
            s.append("<!DOCTYPE a [<!ENTITY e 'x'><!ENTITY f '&e; ").append(next(2) == 0 ? "<?t&#13;x?>" : "").append("'><!ENTITY g '<b>&e;</b>'>");
            for (int i = next(6); i > 0; i--) {
                s.append(declaration());
            }
            s.append("]>");
        }
        s.append(next(6) == 0 ? "<?t u?>" : "");
        element(s, 3);
        return s.append(next(6) == 0 ? " <!-- x --><?t  u ?>" : "").toString();
    }

    private static String declaration() {
        switch (next(6)) {
            case 0:
            case 1:
                return "<!ELEMENT " + name() + " " + of(MODELS) + ">";
            case 2:
                return "<!ATTLIST " + name() + " " + name() + " " + of(TYPES) + " #IMPLIED " + name() + " " + of(TYPES) + " '" + of(VALUES) + "'>";
            case 3:
                return "<!ATTLIST " + name() + " xmlns:p CDATA 'u:1' " + name() + " " + of(TYPES) + " #REQUIRED>";
            case 4:
                return "<!ENTITY % p '<!ELEMENT c ANY>'>%p;";
            default:
                return next(4) > 0 ? "<!NOTATION n SYSTEM ''>" : "<?t:u?><!ENTITY n:m ''>";
        }
    }

    private static void element(StringBuilder s, int deep) {
        String name = name();
        s.append('<').append(name);
        if (next(3) == 0) {
            s.append(" xmlns:p='u:1' xmlns:q=\"u:").append(1 + next(2)).append('"');
        }
        String before = "";
        for (int i = next(3); i > 0; i--) {
            String attribute = name();
            if (!attribute.equals(before) || next(20) == 0) {
                s.append(' ').append(attribute).append(" = '").append(of(VALUES)).append('\'');
            }
            before = attribute;
        }
        if (next(4) == 0) {
            s.append("/>");
            return;
        }
        s.append('>');
        for (int i = next(4); i > 0; i--) {
            inside(s, deep);
        }
        s.append("</").append(name).append('>');
    }

    private static void inside(StringBuilder s, int deep) {
        switch (next(7)) {
            case 0:
                s.append('&').append(of(ENTITIES)).append(';');
                break;
            case 1:
                s.append("<![CDATA[<&]]>");
                break;
            case 2:
                s.append("<!-- - --><?t u?>");
                break;
            case 3:
                s.append(" \r\n\r");
                break;
            case 4:
                s.append("x>&#13;&#32;\u20ac\ud83d\ude00");
                break;
            default:
                if (deep > 0) {
                    element(s, deep - 1);
                }
        }
    }

    private static String damaged(String text) {
        StringBuilder s = new StringBuilder(text);
        for (int i = 1 + next(2); i > 0; i--) {
            int at = next(s.length() + 1);
            switch (next(3)) {
                case 0:
                    s.setLength(at);
                    break;
                case 1:
                    s.delete(at, Math.min(s.length(), at + 1 + next(5)));
                    break;
                default:
                    s.insert(at, of(PIECES));
            }
        }
        return s.toString();
    }

    /** All that the judge says of a text. */
    private static String told(MarkupJudge x, String text) {
        StringBuilder s = new StringBuilder();
        s.append(Check.judge(x, text)).append(' ').append(x.fault()).append(' ').append(x.place());
        s.append(' ').append(Check.violations(x)).append(' ').append(Check.spaces(x));
        s.append(' ').append(x.elements()).append(' ').append(x.characters()).append(' ').append(x.counted());
        for (int e = 0; e < x.elements(); e++) {
            s.append(" <").append(Check.name(x, e)).append(' ').append(x.parent(e));
            for (int a = 0; a < x.attributes(e); a++) {
                s.append(' ').append(Check.part(x, e, a, 0)).append('=').append(Check.part(x, e, a, 1));
            }
        }
        return s.append(' ').append(Check.canonical(x)).toString();
    }

    private static void agree(MarkupJudge x, String text) {
        int fault = x.fault();
        int place = x.place();
        Check.due(text + " fault", fault >= 0 && fault <= 14 ? 1 : 0, 1);
        Check.due(text + " place", fault == 0 ? place == NONE ? 1 : 0 : place >= 0 && place <= Check.utf8(text).length ? 1 : 0, 1);
        if (fault != 0) {
            Check.due(text + " no elements", x.elements(), 0);
            Check.due(text + " no violations", x.violations(1), NONE);
            Check.due(text + " no product", x.canonical(), NONE);
            return;
        }
        int last = x.elements();
        Check.due(text + " behind the last element", x.name(last, 0) + x.attributes(last) + x.parent(last), 3 * NONE);
        Check.due(text + " behind the last attribute", x.attribute(last - 1, x.attributes(last - 1), 0, 0), NONE);
        if (x.violations(0) == 1) {
            Check.due(text + " the others are none", Check.violations(x), "0:1");
        }
        if (!Check.spaces(x).isEmpty()) {
            Check.due(text + " refused", x.canonical(), -2);
        }
    }

    private static void ownCanonical(MarkupJudge x, String text) {
        Check.due(text + " steady()", x.steady() ? 1 : 0, 1);
        if (x.fault() != 0 || x.canonical() < 0) {
            return;
        }
        byte[] first = Check.product(x);
        MarkupJudge enough = new MarkupJudge(0, 0);
        Check.due(text + " canonical bytes", Check.judge(enough, first), 1);
        Check.due(text + " canonical bytes", Check.spaces(enough), "");
        Check.due(text + " their own canonical bytes", enough.canonical(), first.length);
        Check.due(text + " are the same", Arrays.equals(first, Check.product(enough)) ? 1 : 0, 1);
        Check.due(text + " characters", enough.characters(), x.characters());
        Check.due(text + " elements", enough.elements(), x.elements());
    }
}
