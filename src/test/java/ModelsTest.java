import java.util.ArrayList;
import java.util.List;
import java.util.regex.Pattern;

/** Models of elements (constraints 4 and 6) against the library's regular expressions: all small ones, and some that are larger. */
public final class ModelsTest {
    private static final String[] OFTEN = {"", "?", "*", "+"};
    private static final int LONGEST = 4;

    private static long seed = 11;

    private ModelsTest() {
    }

    public static void main(String[] args) {
        List<String> models = small();
        for (int i = 0; i < 400; i++) {
            int[] left = {4};
            models.add(group(2, left));
        }
        for (int i = 0; i < models.size(); i += 8) {
            judge(models.subList(i, Math.min(i + 8, models.size())), i % 16 == 0);
        }
        Check.finish();
    }

    private static int next(int bound) {
        seed = seed * 6364136223846793005L + 1442695040888963407L;
        return (int) ((seed >>> 33) % bound);
    }

    /** One part or two, each as often as can be. */
    private static List<String> small() {
        List<String> models = new ArrayList<>();
        for (String all : OFTEN) {
            for (String first : OFTEN) {
                models.add("(b" + first + ")" + all);
                for (String second : OFTEN) {
                    models.add("(b" + first + ",c" + second + ")" + all);
                    models.add("(b" + first + "|c" + second + ")" + all);
                    models.add("(b" + first + ",b" + second + ")" + all);
                    models.add("(b" + first + "|b" + second + ")" + all);
                }
            }
        }
        return models;
    }

    private static String group(int deep, int[] left) {
        int parts = 1 + next(3);
        String separator = parts > 1 && next(2) == 0 ? "|" : ",";
        StringBuilder s = new StringBuilder("(");
        for (int i = 0; i < parts && (i == 0 || left[0] > 0); i++) {
            s.append(i > 0 ? separator : "");
            if (deep > 0 && next(2) == 0) {
                s.append(group(deep - 1, left));
            } else {
                left[0]--;
                s.append("bcd".charAt(next(3))).append(OFTEN[next(4)]);
            }
        }
        return s.append(')').append(OFTEN[next(4)]).toString();
    }

    /** All rows of these letters, up to so many. */
    private static List<String> rows(String letters, int longest) {
        List<String> rows = new ArrayList<>();
        rows.add("");
        for (int i = 0; i < rows.size(); i++) {
            for (char c : letters.toCharArray()) {
                if (rows.get(i).length() < longest) {
                    rows.add(rows.get(i) + c);
                }
            }
        }
        return rows;
    }

    /** Several models in one document, so that none is taken for another one; in an entity's text, or not. */
    private static void judge(List<String> models, boolean inEntity) {
        StringBuilder declared = new StringBuilder();
        StringBuilder group = new StringBuilder();
        StringBuilder root = new StringBuilder();
        int misfits = 0;
        int ambiguous = 0;
        for (int m = 0; m < models.size(); m++) {
            declared.append("<!ELEMENT m").append(m).append(' ').append(models.get(m)).append('>');
            group.append("|m").append(m);
            ambiguous += isDeterministic(models.get(m)) ? 0 : 1;
            Pattern pattern = Pattern.compile(models.get(m).replace(",", ""));
            for (String row : rows("bc", 3)) {
                misfits += pattern.matcher(row).matches() ? 0 : 1;
                root.append("<m").append(m).append('>').append(tags(row)).append("</m").append(m).append('>');
            }
        }
        String d = "<!ELEMENT b EMPTY><!ELEMENT c EMPTY><!ELEMENT d EMPTY><!ELEMENT a (#PCDATA" + group + ")*>" + declared;
        String text = "<!DOCTYPE a [" + (inEntity ? "<!ENTITY % p '" + d + "'>%p;" : d) + "]><a>" + root + "</a>";
        MarkupJudge x = Check.formed(text);
        Check.due(models + " 4", x.violations(4), ambiguous);
        Check.due(models + " 6", x.violations(6), misfits);
        Check.due(models + " all", Check.violations(x), ((ambiguous > 0 ? "4:" + ambiguous : "") + " " + (misfits > 0 ? "6:" + misfits : "")).trim());
    }

    private static String tags(String row) {
        StringBuilder s = new StringBuilder();
        for (char c : row.toCharArray()) {
            s.append('<').append(c).append("/>");
        }
        return s.toString();
    }

    /** By the document's own words: no row of occurrences can be followed by two occurrences of the same name. */
    private static boolean isDeterministic(String model) {
        StringBuilder occurrences = new StringBuilder();
        StringBuilder names = new StringBuilder();
        for (char c : model.toCharArray()) {
            boolean name = c >= 'b' && c <= 'd';
            if (name) {
                occurrences.append((char) ('1' + names.length()));
                names.append(c);
            } else if (c != ',') {
                occurrences.append(c);
            }
        }
        StringBuilder letters = new StringBuilder();
        for (int i = 0; i < names.length(); i++) {
            letters.append((char) ('1' + i));
        }
        // rows so long show what can follow each occurrence of so few
        int longest = names.length() > 4 ? LONGEST : LONGEST + 2;
        boolean[][] follows = new boolean[names.length() + 1][names.length()];
        Pattern pattern = Pattern.compile(occurrences.toString());
        for (String row : rows(letters.toString(), longest)) {
            if (!row.isEmpty() && pattern.matcher(row).matches()) {
                for (int i = 0; i < row.length(); i++) {
                    follows[i == 0 ? names.length() : row.charAt(i - 1) - '1'][row.charAt(i) - '1'] = true;
                }
            }
        }
        for (boolean[] row : follows) {
            for (int i = 0; i < row.length; i++) {
                for (int k = 0; k < i; k++) {
                    if (row[i] && row[k] && names.charAt(i) == names.charAt(k)) {
                        return false;
                    }
                }
            }
        }
        return true;
    }
}
