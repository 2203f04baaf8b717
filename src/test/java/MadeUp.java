/** Makes up documents, the same ones in every run for the same seed: most of them well formed, few of them valid. */
final class MadeUp {
    private static final String[] ATTRIBUTES = {"a", "b", "c", "id", "x", "y"};
    private static final String[] WORDS = {"a", "b", "c", "1", "a b", " a ", "n", "m", "x", "", "-1", "a  c"};
    private static final String[] RUNS = {"x", "y z", " ", "\n", "\t", "\r\n", "]]", ">", "'", "\"", "\u00e9", "1", "%", ";", "--", "]]&gt;", "#", "/"};
    private static final String[] CHARACTERS = {"&#32;", "&#9;", "&#10;", "&#13;", "&#x20;", "&#65;", "&#x3c;", "&#60;", "&#38;", "&#x26;", "&#39;",
        "&#34;", "&#62;", "&#xE9;", "&#93;", "&lt;", "&gt;", "&amp;", "&apos;", "&quot;"};
    private static final String[] NO_CHARACTERS = {"&#0;", "&#1;", "&#xD800;", "&#xFFFE;", "&#x110000;", "&#99999999999;", "&#31;"};
    private static final String[] PARTS = {"<a>", "</a>", "<b", "&#60;b/>", "&#38;#60;", "&#38;lt;", "&#38;", "&#38;e;", "<?t x&#13;y?>", "<!-- c -->",
        "<![CDATA[ ]]>", "]]>"};
    private static final String[] PIECES = {"<", ">", "&", ";", "'", "\"", "<!", "]]>", "/>", "<a>", "</a>", "%p;", "&e;", "--", "?>", "]>", "<!DOCTYPE a>",
        " ", "|", ",", "(", ")", "<?xml?>", "%", "&#38;", "-", "a", "1"};

    private long seed;
    private boolean colons;
    private final boolean again;
    private String declared;

    /** With again an attribute may be declared for the second time. */
    MadeUp(long seed, boolean again) {
        this.seed = seed;
        this.again = again;
    }

    int next(int bound) {
        seed = seed * 6364136223846793005L + 1442695040888963407L;
        return (int) ((seed >>> 33) % bound);
    }

    private boolean once(int in) {
        return next(in) == 0;
    }

    private String of(String... row) {
        return row[next(row.length)];
    }

    private String space() {
        return once(6) ? of("\n", "\t", "  ", " \r\n ", "\r") : " ";
    }

    private String perhapsSpace() {
        return once(5) ? space() : "";
    }

    private String name() {
        if (colons && once(3)) {
            return of("p:a", "q:a", "p:b", "q:b", "xml:a", "r:a");
        }
        return once(12) ? of("d", "e1", "_x", "a-b", "a.c", "\u00e9") : of("a", "b", "c");
    }

    private String attributeName() {
        return colons && once(3) ? of("p:a", "q:a", "p:b", "q:b", "xml:lang", "r:a") : of(ATTRIBUTES);
    }

    private String quoted(String text) {
        char quote = text.indexOf('\'') >= 0 || text.indexOf('"') < 0 && once(2) ? '"' : '\'';
        return quote + text.replace(String.valueOf(quote), quote == '"' ? "&#34;" : "&#39;") + quote;
    }

    private String reference() {
        if (once(60)) {
            return of(NO_CHARACTERS);
        }
        return once(40) ? "&u;" : once(2) ? of(CHARACTERS) : "&" + of("e", "f", "g", "h") + ";";
    }

    private String value() {
        if (once(2)) {
            return quoted(of(WORDS));
        }
        StringBuilder s = new StringBuilder();
        for (int i = next(4); i > 0; i--) {
            s.append(once(3) ? reference() : of("a", "b", " ", "a b", "1", "  ", "\n", "-", "\t", ">", "]]>", "n"));
        }
        return quoted(s.toString());
    }

    private String type() {
        switch (next(4)) {
            case 0:
                return "CDATA";
            case 1:
                return "(" + perhapsSpace() + "a" + perhapsSpace() + "|" + perhapsSpace() + "b|1" + (once(6) ? "|a" : "") + perhapsSpace() + ")";
            case 2:
                return of("IDREFS", "ENTITY", "ENTITIES", "NMTOKEN", "NMTOKENS");
            default:
                return of("ID", "IDREF", "(x)", "NOTATION" + space() + "(n" + (once(2) ? "|" + perhapsSpace() + "m" : "") + ")");
        }
    }

    private String attributes() {
        String element = name();
        StringBuilder s = new StringBuilder("<!ATTLIST" + space() + element);
        for (int i = next(4); i > 0; i--) {
            String attribute = colons && once(4) ? of("xmlns", "xmlns:p", "xmlns:q") : attributeName();
            String both = "<" + element + " " + attribute + ">";
            if (!again && declared.contains(both)) {
                continue;
            }
            declared = declared + both;
            s.append(space()).append(attribute).append(space());
            if (attribute.startsWith("xmlns")) {
                s.append(of("CDATA", "NMTOKEN")).append(space()).append(once(3) ? "#FIXED " : "").append(quoted(of("u:1", "u:2", " u:1", "")));
            } else {
                String how = once(3) ? value() : once(3) ? "#FIXED" + space() + value() : of("#IMPLIED", "#IMPLIED", "#REQUIRED");
                s.append(type()).append(space()).append(how);
            }
        }
        return s + perhapsSpace() + ">";
    }

    private String group(int deep) {
        StringBuilder s = new StringBuilder("(" + perhapsSpace());
        String separator = of("|", ",");
        for (int i = next(3); i >= 0; i--) {
            s.append(deep > 0 && once(3) ? group(deep - 1) : name() + of("", "", "", "?", "*", "+"));
            s.append(i > 0 ? perhapsSpace() + separator : "").append(perhapsSpace());
        }
        return s + ")" + of("", "", "", "?", "*", "+");
    }

    private String model() {
        switch (next(6)) {
            case 0:
                return of("EMPTY", "ANY");
            case 1:
                return "(" + perhapsSpace() + "#PCDATA" + perhapsSpace() + ")" + (once(3) ? "*" : "");
            case 2:
                StringBuilder s = new StringBuilder("(" + perhapsSpace() + "#PCDATA");
                for (int i = next(4); i >= 0; i--) {
                    s.append(perhapsSpace()).append('|').append(perhapsSpace()).append(name());
                }
                return s + perhapsSpace() + ")*";
            default:
                return group(2);
        }
    }

    private String instruction() {
        return "<?" + of("t", "u", "xmls", colons ? "x:y" : "y") + of("", " ", " x", "  x ", "\nx&e;<", " ?", " x?", "\tx\r\ny") + "?>";
    }

    private String comment() {
        return "<!--" + of("", " x ", "-x", " - ", "<a>&x;", "\u00e9") + "-->";
    }

    private String entityText() {
        StringBuilder s = new StringBuilder();
        for (int i = next(4); i > 0; i--) {
            switch (next(9)) {
                case 0:
                    s.append(reference());
                    break;
                case 1:
                    s.append(of("<b/>", "<a>x</a>"));
                    break;
                case 2:
                    s.append(once(3) ? of(PARTS) : "");
                    break;
                case 3:
                    s.append("<b a=").append(value()).append("/>");
                    break;
                default:
                    s.append(of(RUNS).replace("%", "&#37;").replace("]]", "]"));
            }
        }
        return quoted(s.toString());
    }

    /** Declarations as the text of a parameter entity: each & and % in them must come out of it as it went in. */
    private String parameterText() {
        StringBuilder s = new StringBuilder();
        for (int i = next(3); i > 0; i--) {
            s.append(once(14) ? of("]", "x", "<!ELEMENT", "]>", "<a/>") : declaration(0));
        }
        String text = s.toString().replace("&", "&#38;").replace("%", "&#37;");
        return quoted(once(12) ? text + "&#37;p;" : text);
    }

    private String declaration(int deep) {
        switch (next(deep > 0 ? 12 : 10)) {
            case 0:
            case 1:
            case 2:
                return "<!ELEMENT" + space() + name() + space() + model() + perhapsSpace() + ">";
            case 3:
            case 4:
            case 5:
                return attributes();
            case 6:
                return "<!ENTITY" + space() + of("e", "f", "g", "h") + space() + entityText() + perhapsSpace() + ">";
            case 7:
                return "<!NOTATION" + space() + of("n", "m", "o") + space() + of("SYSTEM 'x'", "PUBLIC 'y'", "PUBLIC 'y' \"z\"") + perhapsSpace() + ">";
            case 8:
                return comment() + instruction();
            case 9:
                return space();
            default:
                return "<!ENTITY" + space() + "%" + space() + "p" + space() + parameterText() + perhapsSpace() + ">" + (once(2) ? "%p;" : "");
        }
    }

    private String doctype() {
        StringBuilder s = new StringBuilder("<!DOCTYPE" + space() + (once(10) ? name() : "a") + perhapsSpace());
        if (once(12)) {
            return s + ">";
        }
        s.append('[');
        for (String entity : new String[] {"e", "f", "g", "h"}) {
            s.append(once(5) ? "" : "<!ENTITY " + entity + " " + entityText() + ">");
        }
        if (!once(3)) {
            s.append("<!ELEMENT a ").append(of("ANY", "(#PCDATA|a|b|c)*", "(a|b|c)*"));
            s.append("><!ELEMENT b ").append(model()).append("><!ELEMENT c ").append(model()).append('>');
        }
        if (!once(3)) {
            s.append("<!ATTLIST a a CDATA #IMPLIED b NMTOKENS #IMPLIED id ID #IMPLIED x IDREFS #IMPLIED y (a|b) 'a'>");
            declared = "<a a><a b><a id><a x><a y>";
        }
        for (int i = next(6); i > 0; i--) {
            s.append(declaration(1));
        }
        return s + "]" + perhapsSpace() + ">";
    }

    private void tag(StringBuilder s, String name) {
        s.append('<').append(name);
        if (colons && once(2)) {
            s.append(space()).append("xmlns:p=").append(quoted(of("u:1", "u:2"))).append(" xmlns:q='u:2'");
            s.append(once(2) ? space() + "xmlns=" + quoted(of("u:1", "u:2", "")) : "");
        }
        if (colons && once(20)) {
            s.append(space()).append(of("xmlns:xml='http://www.w3.org/XML/1998/namespace'", "xmlns:r='http://www.w3.org/XML/1998/namespace'",
                "xmlns:r=''", "xmlns:xmlns='u:1'", "xmlns='http://www.w3.org/2000/xmlns/'"));
        }
        String had = "";
        for (int i = next(4); i > 0; i--) {
            String attribute = attributeName();
            if (!had.contains(" " + attribute + " ") || once(15)) {
                s.append(space()).append(attribute).append(perhapsSpace()).append('=').append(perhapsSpace()).append(value());
            }
            had = had + " " + attribute + " ";
        }
        s.append(perhapsSpace());
    }

    private void element(StringBuilder s, int deep, String name) {
        tag(s, name);
        if (once(3)) {
            s.append("/>");
            return;
        }
        s.append('>');
        for (int i = next(4); i > 0; i--) {
            switch (next(9)) {
                case 0:
                    s.append(reference());
                    break;
                case 1:
                    s.append("<![CDATA[").append(of("", " ", "<&", "]]", "x", "\r\n")).append("]]>");
                    break;
                case 2:
                    s.append(once(2) ? comment() : instruction());
                    break;
                case 3:
                case 4:
                    s.append(of(RUNS)).append(once(8) ? "\ud83d\ude00" : "");
                    break;
                case 5:
                    s.append(space());
                    break;
                default:
                    if (deep > 0) {
                        element(s, deep - 1, name());
                    }
            }
        }
        s.append("</").append(name).append(perhapsSpace()).append('>');
    }

    String document(boolean withColons) {
        colons = withColons;
        declared = "";
        StringBuilder s = new StringBuilder();
        if (once(4)) {
            s.append("<?xml").append(space()).append("version").append(perhapsSpace()).append("=").append(perhapsSpace()).append("'1.0'");
            s.append(once(3) ? space() + "encoding='UTF-8'" : "").append(once(2) ? space() + "standalone=" + quoted(of("yes", "no")) : "");
            s.append(perhapsSpace()).append("?>");
        }
        s.append(once(6) ? comment() : "").append(once(6) ? instruction() : "");
        s.append(once(7) ? "" : doctype()).append(once(6) ? comment() + space() : "");
        element(s, 3, once(12) ? name() : "a");
        return s.append(once(5) ? space() + instruction() : "").toString();
    }

    /** The same with one or two characters or pieces more, less or otherwise; or cut off. */
    String damaged(String text) {
        StringBuilder s = new StringBuilder(text);
        for (int i = 1 + next(2); i > 0; i--) {
            int at = next(s.length() + 1);
            switch (next(7)) {
                case 0:
                    s.setLength(at);
                    break;
                case 1:
                case 2:
                    s.delete(at, Math.min(s.length(), at + 1 + next(3)));
                    break;
                case 3:
                case 4:
                    s.replace(at, Math.min(s.length(), at + 1), of(PIECES));
                    break;
                default:
                    s.insert(at, of(PIECES));
            }
        }
        return s.toString();
    }
}
