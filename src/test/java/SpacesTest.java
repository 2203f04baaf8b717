/** Promise 9: spaces, the violations of namespaces. */
public final class SpacesTest {
    private static final String XML = "http://www.w3.org/XML/1998/namespace";
    private static final String XMLNS = "http://www.w3.org/2000/xmlns/";

    private SpacesTest() {
    }

    public static void main(String[] args) {
        which();
        qnames();
        meanings();
        same();
        declarations();
        colons();
        byDefault();
        Check.finish();
    }

    private static void due(String text, String want) {
        Check.due(text, Check.spaces(Check.formed(text)), want);
    }

    private static void which() {
        MarkupJudge x = Check.formed("<a/>");
        Check.due("spaces(-1)", x.spaces(-1), -1);
        Check.due("spaces(0)", x.spaces(0), 0);
        Check.due("spaces(5)", x.spaces(5), 0);
        Check.due("spaces(6)", x.spaces(6), -1);
        Check.judge(x, "<a>");
        Check.due("without a document", x.spaces(0), -1);
    }

    private static void qnames() {
        due("<a b='' c-1=''/>", "");
        String[] none = {":", "a:", ":a", "a:b:c", "a::b", "a:1", "a:-b", "a:\u00b7", "::"};
        for (String s : none) {
            due("<" + s + "/>", "0:1");
            due("<a " + s + "=''/>", "0:1");
            due("<a " + s + "='' xmlns='u:u'><" + s + " " + s + "=''/></a>", "0:3");
        }
    }

    private static void meanings() {
        due("<p:a/>", "1:1");
        due("<a p:b='' p:c='' q:b=''/>", "1:3");
        due("<p:a xmlns:p='u:1' p:b=''><p:c/></p:a>", "");
        due("<p:a p:b='' xmlns:p='u:1'/>", "");
        due("<a><b xmlns:p='u:1'><p:c/></b><p:c/></a>", "1:1");
        due("<a xmlns:p='u:1'><b xmlns:p='u:2'/><p:c/></a>", "");
        due("<xml:a xml:b=''/>", "");
        due("<xmlns:a/>", "4:1");
        due("<xmlns:a><xmlns:b/></xmlns:a>", "4:2");
        due("<a xmlns='u:1' b=''/>", "");
        // of what is no qname nothing is a prefix
        due("<p:1 p:b:c=''/>", "0:2");
        due("<a xmlns:p:q='u:1'><p:b/></a>", "0:1 1:1");
        due("<a xmlns:1='u:1'/>", "0:1");
    }

    private static void same() {
        due("<a xmlns:p='u:1' xmlns:q='u:1' p:b='' q:b=''/>", "2:1");
        due("<a xmlns:p='u:1' xmlns:q='u:1' xmlns:r='u:1' r:b='' p:b='' q:b='' q:c=''/>", "2:2");
        due("<a xmlns:p='u:1' xmlns:q='u:2' p:b='' q:b=''/>", "");
        due("<a xmlns:p='u:1' xmlns='u:1' p:b='' b=''/>", "");
        due("<a xmlns:p='u:1' xmlns:q='u:1' p:b='' q:c=''><b p:b='' c='' q:c=''/></a>", "");
        due("<a p:b='' q:b=''/>", "1:2");
        due("<a xmlns:p='u:1'><b xmlns:q='u:&#49;' p:b='' q:b=''/></a>", "2:1");
        due("<a xmlns:p='u:1' xmlns:q='U:1' p:b='' q:b=''/>", "");
    }

    private static void declarations() {
        due("<a xmlns='' xmlns:p='x'/>", "");
        due("<a xmlns:p=''/>", "3:1");
        due("<p:a xmlns:p=''/>", "1:1 3:1");
        due("<a xmlns:p='u:1'><b xmlns:p=''><p:c/></b></a>", "1:1 3:1");
        due("<a xmlns:xmlns='u:1'/>", "3:1");
        due("<a xmlns:xmlns=''/>", "3:1");
        due("<a xmlns:xml='u:1' xml:b=''/>", "3:1");
        due("<a xmlns:xml=''/>", "3:1");
        due("<a xmlns:xml='" + XML + "' xml:b=''/>", "");
        due("<a xmlns:xml='" + XMLNS + "'/>", "3:1");
        due("<a xmlns:p='" + XML + "'/>", "3:1");
        due("<a xmlns='" + XML + "'/>", "3:1");
        due("<a xmlns='" + XML + " '/>", "");
        due("<a xmlns:p='" + XMLNS + "' xmlns='" + XMLNS + "'/>", "3:2");
        due("<xmlns:a xmlns:xmlns='u:1'/>", "3:1 4:1");
        // what xml and xmlns mean can't be changed
        due("<a xmlns:xml='' xml:b=''><xml:c/></a>", "3:1");
        due("<a xmlns:xml='u:1' xmlns:p='u:1' xml:b='' p:b=''/>", "3:1");
        due("<a xmlns:xmlns='u:1' xmlns:p='u:1' p:q='' xmlns:q='u:2'/>", "3:1");
        due("<a xmlns:xmlns='" + XML + "'/>", "3:1");
    }

    private static void colons() {
        due("<?a:b?><a><?a?><?:?></a><?a:b c?>", "5:3");
        due("<!DOCTYPE a [<?a:b?><!ENTITY a:b ''><!ENTITY a:b ''><!ENTITY % a: ''><!NOTATION :a SYSTEM ''><!NOTATION a SYSTEM ''>]><a/>", "5:5");
        due("<!DOCTYPE a:b:c [<!ELEMENT a: ANY><!ATTLIST a: b: CDATA #IMPLIED>]><a/>", "");
        due("<!DOCTYPE a [<!ENTITY e '<?a:b?>'>]><a>&e;&e;</a>", "5:2");
        due("<!DOCTYPE a [<!ENTITY e '<?a:b?>'>]><a/>", "");
        due("<!DOCTYPE a [<!ENTITY % p '<!ENTITY a:b \"\">'>%p;%p;]><a/>", "5:2");
    }

    private static void byDefault() {
        String d = "<!DOCTYPE a [<!ATTLIST a xmlns:p CDATA 'u:1' p:b CDATA ''><!ATTLIST b q:c CDATA '' d: CDATA ''>]>";
        due(d + "<a/>", "");
        due(d + "<p:x><a/></p:x>", "1:1");
        due(d + "<a><b/><b/></a>", "0:2 1:2");
        due(d + "<a xmlns:q='u:1' q:b=''/>", "2:1");
        // the value counts as its type has it
        due("<!DOCTYPE a [<!ATTLIST a xmlns:p NMTOKEN ' " + XML + "'>]><a/>", "3:1");
        due("<!DOCTYPE a [<!ATTLIST a xmlns:p NMTOKEN #IMPLIED>]><a xmlns:p='  '/>", "3:1");
    }
}
