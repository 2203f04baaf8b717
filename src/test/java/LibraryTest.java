import java.io.ByteArrayInputStream;
import java.io.IOException;
import java.io.OutputStream;
import java.io.PrintStream;
import java.nio.charset.StandardCharsets;
import javax.xml.parsers.ParserConfigurationException;
import javax.xml.parsers.SAXParser;
import javax.xml.parsers.SAXParserFactory;
import org.xml.sax.Attributes;
import org.xml.sax.InputSource;
import org.xml.sax.SAXException;
import org.xml.sax.SAXParseException;
import org.xml.sax.helpers.DefaultHandler;

/**
 * Made-up documents against the parser of Java's library, which was written by others from the same public rules: whether
 * they are well formed, which elements and attributes they have, whether they are valid, and their namespaces. Where the
 * document rules otherwise than that parser, no answer is asked for: see the methods that begin with isOther.
 */
public final class LibraryTest {
    private static final int ROUNDS = 3000;

    private final SAXParser plain = parser(false, false);
    private final SAXParser validating = parser(true, false);
    private final SAXParser withSpaces = parser(false, true);
    private int formed;
    private int valid;
    private int spaced;

    private LibraryTest() throws ParserConfigurationException, SAXException {
    }

    public static void main(String[] args) throws Exception {
        // The library's parser writes there where it met an end that it did not look for.
        System.setErr(new PrintStream(OutputStream.nullOutputStream()));
        LibraryTest test = new LibraryTest();
        MadeUp made = new MadeUp(args.length > 0 ? Long.parseLong(args[0]) : 20261116, false);
        for (int i = 0; i < (args.length > 1 ? Integer.parseInt(args[1]) : ROUNDS); i++) {
            String text = made.document(i % 3 == 0);
            test.compare(made.next(3) == 0 ? made.damaged(text) : text, i % 3 == 0);
        }
        Check.due("some were compared as well formed", test.formed > ROUNDS / 3, true);
        Check.due("some were compared as valid", test.valid > ROUNDS / 100, true);
        Check.due("some were compared as right in their namespaces", test.spaced > ROUNDS / 100, true);
        Check.finish();
    }

    private static SAXParser parser(boolean validating, boolean withSpaces) throws ParserConfigurationException, SAXException {
        SAXParserFactory factory = SAXParserFactory.newInstance();
        factory.setValidating(validating);
        factory.setNamespaceAware(withSpaces);
        return factory.newSAXParser();
    }

    /** What the library's parser tells of a text. */
    private static final class Told extends DefaultHandler {
        private final StringBuilder elements = new StringBuilder();
        private int characters;
        private int errors;
        private boolean fatal;

        private boolean complained() {
            return fatal || errors > 0;
        }

        @Override
        public void startElement(String uri, String local, String name, Attributes attributes) {
            elements.append('<').append(name);
            for (int i = 0; i < attributes.getLength(); i++) {
                elements.append(' ').append(attributes.getQName(i)).append('=').append(attributes.getValue(i)).append('|');
            }
        }

        @Override
        public void characters(char[] row, int from, int size) {
            characters += Character.codePointCount(row, from, size);
        }

        @Override
        public void ignorableWhitespace(char[] row, int from, int size) {
            characters += size;
        }

        @Override
        public void error(SAXParseException e) {
            errors++;
        }

        @Override
        public void fatalError(SAXParseException e) throws SAXException {
            fatal = true;
            throw e;
        }
    }

    private static Told told(SAXParser parser, byte[] row) {
        Told told = new Told();
        try {
            parser.parse(new InputSource(new ByteArrayInputStream(row)), told);
        } catch (SAXException | IOException | IndexOutOfBoundsException e) {
            // A text that ends within a declaration ends some of its readings early, and values by default that are not as
            // their type wants throw it off its rows.
            told.fatal = true;
        }
        return told;
    }

    private void compare(String text, boolean withColons) {
        byte[] row = text.getBytes(StandardCharsets.UTF_8);
        MarkupJudge x = new MarkupJudge(20000, 2000);
        boolean isFormed = Check.judge(x, row) < 2;
        Told theirs = told(plain, row);
        if (isFormed ? isOtherWithoutFault(x) : isOtherFault(x, text)) {
            return;
        }
        Check.due(text + " (fault " + x.fault() + ") is well formed", isFormed, !theirs.fatal);
        if (!isFormed || theirs.fatal) {
            return;
        }
        formed++;
        Check.due(text + " characters", x.characters(), theirs.characters);
        // The library leaves one 32 at the end of a value by default.
        Check.due(text + " elements", elements(x).replace(" |", "|"), theirs.elements.toString().replace(" |", "|"));
        if (!isOtherValidity(x, text)) {
            boolean isValid = x.violations(4) > 0 ? Check.violations(x).equals("4:" + x.violations(4)) : Check.violations(x).isEmpty();
            Check.due(text + " (" + Check.violations(x) + ") is valid", isValid, !told(validating, row).complained());
            valid += isValid ? 1 : 0;
        }
        if (withColons && !isOtherSpace(x)) {
            boolean isRight = Check.spaces(x).isEmpty();
            Check.due(text + " (" + Check.spaces(x) + ") namespaces", isRight, !told(withSpaces, row).complained());
            spaced += isRight ? 1 : 0;
        }
    }

    private static String elements(MarkupJudge x) {
        StringBuilder told = new StringBuilder();
        for (int e = 0; e < x.elements(); e++) {
            told.append('<').append(Check.name(x, e));
            for (int a = 0; a < x.attributes(e); a++) {
                told.append(' ').append(Check.part(x, e, a, 0)).append('=').append(Check.part(x, e, a, 1)).append('|');
            }
        }
        return told.toString();
    }

    /**
     * The library does without a parameter entity's declaration, without some spaces in a head, in attribute and in notation
     * declarations, and knows more names for an encoding.
     */
    private static boolean isOtherFault(MarkupJudge x, String text) {
        int[] characters = text.replace("\r\n", "\n").codePoints().toArray();
        int rest = characters.length - x.place();
        String item = new String(characters, x.place(), Math.min(rest, 9));
        boolean isIndirect = item.startsWith("%");
        boolean isLax = isIndirect || item.equals("<!ATTLIST") || item.equals("<!NOTATIO") || item.startsWith("<?xml");
        return x.fault() == 9 && isIndirect || x.fault() == 5 && isLax || x.fault() == 2;
    }

    /** For the library it is fatal if a value refers to an entity that is not declared. */
    private static boolean isOtherWithoutFault(MarkupJudge x) {
        return x.violations(22) > 0;
    }

    /**
     * The library looks at no determinism (4, which the caller knows), takes spaces by references to characters for spaces
     * in a model (6), takes an empty value for names (15), and looks at what a later declaration of an attribute lists.
     */
    private static boolean isOtherValidity(MarkupJudge x, String text) {
        boolean isOnly6 = true;
        boolean isOnly15 = true;
        for (int k = 0; k < 23; k++) {
            isOnly6 &= k == 4 || k == 6 || x.violations(k) == 0;
            isOnly15 &= k == 4 || k == 15 || x.violations(k) == 0;
        }
        boolean isByReferences = text.contains("&#32;") || text.contains("&#x20;") || text.contains("&#9;") || text.contains("&#10;") || text.contains("&#13;");
        boolean isAgain = text.indexOf("%p;") != text.lastIndexOf("%p;");
        return isAgain || x.violations(15) > 0 && isOnly15 || x.violations(6) > 0 && isOnly6 && isByReferences;
    }

    /** The library looks at no colons in names of what is no element and no attribute, nor at one before an attribute's name. */
    private static boolean isOtherSpace(MarkupJudge x) {
        return x.spaces(5) > 0 || x.spaces(0) > 0;
    }
}
