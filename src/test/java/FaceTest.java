import java.io.IOException;
import java.lang.reflect.Array;
import java.lang.reflect.Constructor;
import java.lang.reflect.Field;
import java.lang.reflect.Method;
import java.lang.reflect.Modifier;
import java.nio.file.Files;
import java.nio.file.Path;
import java.util.IdentityHashMap;
import java.util.List;
import java.util.Map;
import java.util.TreeSet;

/** The public face is the document's and no more, and an object, which holds all its memory from the start, is small. */
public final class FaceTest {
    private static final String[] FACE = {"void feed(int,int,int,int,int)", "int end(int)", "int change(int,int)", "int judge()", "int fault()", "int place()",
        "int violations(int)", "int spaces(int)", "int elements()", "int attributes(int)", "int parent(int)", "int name(int,int)",
        "int attribute(int,int,int,int)", "int characters()", "int counted()", "int canonical()", "int out(int)", "int back()", "boolean steady()"};

    private FaceTest() {
    }

    public static void main(String[] args) throws Exception {
        members();
        source();
        size();
        Check.finish();
    }

    private static void members() {
        Class<?> face = MarkupJudge.class;
        Check.due("public and final", face.getModifiers() & (Modifier.PUBLIC | Modifier.FINAL), Modifier.PUBLIC | Modifier.FINAL);
        TreeSet<String> methods = new TreeSet<>();
        for (Method m : face.getDeclaredMethods()) {
            if (!Modifier.isPrivate(m.getModifiers()) && !m.isSynthetic()) {
                methods.add(m.getReturnType() + " " + m.getName() + types(m.getParameterTypes()));
                Check.due(m.getName() + " is public", Modifier.isPublic(m.getModifiers()) ? 1 : 0, 1);
            }
        }
        Check.due("methods", methods.toString(), new TreeSet<>(List.of(FACE)).toString());
        for (Method m : face.getDeclaredMethods()) {
            for (String told : FACE) {
                boolean same = told.substring(told.indexOf(' ') + 1, told.indexOf('(')).equals(m.getName());
                Check.due("a private " + m.getName(), same && Modifier.isPrivate(m.getModifiers()) ? 1 : 0, 0);
            }
        }
        Constructor<?>[] constructors = face.getDeclaredConstructors();
        Check.due("constructors", constructors.length, 1);
        Check.due("constructor", types(constructors[0].getParameterTypes()), "(int,int)");
        for (Field f : face.getDeclaredFields()) {
            Check.due("field " + f.getName(), Modifier.isPrivate(f.getModifiers()) || f.getName().equals("NONE") ? 1 : 0, 1);
        }
        Check.due("a call that throws", throwing("feed"), "java.lang.IllegalStateException");
        Check.due("a call that throws", throwing("end"), "java.lang.IllegalArgumentException");
        Check.due("a call that does not throw", throwing("judge"), "");
    }

    private static String types(Class<?>[] types) {
        StringBuilder told = new StringBuilder("(");
        for (Class<?> type : types) {
            told.append(told.length() > 1 ? "," : "").append(type);
        }
        return told.append(')').toString();
    }

    private static String throwing(String name) {
        StringBuilder told = new StringBuilder();
        for (Method m : MarkupJudge.class.getMethods()) {
            if (m.getName().equals(name)) {
                for (Class<?> type : m.getExceptionTypes()) {
                    told.append(type.getName());
                }
            }
        }
        return told.toString();
    }

    /** Words that LANGUAGE.md leaves no place for. */
    private static void source() throws IOException {
        String source = Files.readString(Path.of("src/main/java/MarkupJudge.java"));
        String[] words = {"package ", " -> ", "::", "synchronized", "assert ", "finally", "try ", "Exception(\"\" +", "System.out", "Random", "Thread", "static {",
            "String[]", "while (", "Exact(", ".hashCode()", ".getMessage()", "extends ", "protected "};
        for (String word : words) {
            Check.due("the source has " + word, source.contains(word) ? 1 : 0, 0);
        }
        int imports = 0;
        for (String line : source.split("\n")) {
            imports += line.startsWith("import ") ? 1 : 0;
        }
        Check.due("imports", imports, source.contains("import java.util.Arrays;") ? 1 : 0);
        Check.due("classes", source.split(" class ").length - 1 <= 12 ? 1 : 0, 1);
    }

    /** Some 7.3 million fields and elements are there for a run; a call makes none, so this is all. */
    private static void size() throws Exception {
        Map<Object, Boolean> seen = new IdentityHashMap<>();
        long elements = count(new MarkupJudge(0, 0), seen);
        Check.due("fields and elements of the largest: " + elements, elements < 2200000 ? 1 : 0, 1);
        Check.due("objects", seen.size() < 100 ? 1 : 0, 1);
        elements = count(new MarkupJudge(64, 16), new IdentityHashMap<>());
        Check.due("fields and elements of the smallest: " + elements, elements < 610000 ? 1 : 0, 1);
        madeByCalls();
    }

    private static long count(Object o, Map<Object, Boolean> seen) throws IllegalAccessException {
        if (o == null || seen.put(o, true) != null) {
            return 0;
        }
        if (o.getClass().isArray()) {
            return Array.getLength(o);
        }
        long sum = 0;
        for (Field f : o.getClass().getDeclaredFields()) {
            if (!Modifier.isStatic(f.getModifiers())) {
                f.setAccessible(true);
                sum += 1 + (f.getType().isPrimitive() ? 0 : count(f.get(o), seen));
            }
        }
        return sum;
    }

    private static void madeByCalls() {
        com.sun.management.ThreadMXBean bean = (com.sun.management.ThreadMXBean) java.lang.management.ManagementFactory.getThreadMXBean();
        if (!bean.isThreadAllocatedMemorySupported()) {
            return;
        }
        byte[] row = Check.utf8("<!DOCTYPE a [<!ELEMENT a (#PCDATA|b)*><!ELEMENT b (a?,b*)><!ENTITY e '<b/>'><!ATTLIST a c ID 'x'>]><a d='&lt;'>&e;</a>  ");
        Check.due("in twenties", row.length % 20, 0);
        int[] fours = new int[row.length / 4];
        for (int i = 0; i < row.length; i++) {
            fours[i / 4] |= (row[i] & 255) << 24 - i % 4 * 8;
        }
        MarkupJudge[] judges = new MarkupJudge[40];
        for (int i = 0; i < judges.length; i++) {
            judges[i] = new MarkupJudge(1000, 100);
        }
        long before = 0;
        for (int i = 0; i < judges.length; i++) {
            before = i == 10 ? bean.getCurrentThreadAllocatedBytes() : before;
            callOften(judges[i], fours);
        }
        long made = bean.getCurrentThreadAllocatedBytes() - before;
        Check.due("bytes made by calls: " + made, made < 4096, true);
        Check.due("they have judged", judges[39].elements(), 2);
    }

    private static void callOften(MarkupJudge x, int[] fours) {
        for (int turn = 0; turn < 20; turn++) {
            for (int i = 0; i + 4 < fours.length; i += 5) {
                x.feed(fours[i], fours[i + 1], fours[i + 2], fours[i + 3], fours[i + 4]);
            }
            x.change(0, '<');
            x.end(4 * fours.length);
            x.judge();
            x.canonical();
            x.back();
            x.judge();
            x.out(0);
            x.name(0, 0);
            x.attribute(0, 0, 0, 0);
            x.attributes(0);
            x.parent(0);
            x.violations(0);
            x.spaces(0);
            x.steady();
        }
    }
}
