import java.io.IOException;
import java.nio.file.DirectoryStream;
import java.nio.file.Files;
import java.nio.file.Path;

/** README.md tells every call in the document's words, its example is true, and it names every test. */
public final class ReadmeTest {
    private ReadmeTest() {
    }

    public static void main(String[] args) throws IOException {
        String readme = Check.read("README.md");
        calls(readme);
        example(readme);
        tests(readme);
        Check.finish();
    }

    private static void calls(String readme) {
        String told = Check.plain(readme);
        int promises = 0;
        for (String section : Check.document().split("\n## ")) {
            if (section.startsWith("Promise ")) {
                promises++;
                String words = Check.plain(section.substring(section.indexOf('\n')));
                Check.due("README.md has: " + words, told.contains(words), true);
            }
        }
        Check.due("promises", promises, Check.document().isEmpty() ? 0 : 20);
    }

    /** The lines between the marks stand in README.md, with what they answer behind them. */
    private static void example(String readme) {
        String source = Check.read("src/test/java/ReadmeTest.java");
        String begin = "// the example begins\n";
        String lines = source.substring(source.lastIndexOf(begin) + begin.length(), source.lastIndexOf("        // the example ends"));
        String shown = readme.substring(readme.indexOf("```java\n") + 8, readme.lastIndexOf("```"));
        Check.due("the example", shown, lines.replaceAll("(?m)^ {8}", ""));
        // the example begins
        MarkupJudge judge = new MarkupJudge(0, 0);      // room 98304, nodes 16384
        judge.feed(0x3C613E78, 0x3C2F613E, 0, 0, 0);    // "<a>x</a>" and twelve bytes more
        int came = judge.end(8);                        // 20: so many there were; now only the first 8
        int answer = judge.judge();                     // 1: a well-formed document, but no valid one
        int fault = judge.fault();                      // 0: none
        int none = judge.violations(0);                 // 1: there is no declaration
        int name = judge.name(0, 0);                    // 97: the root is named a
        int size = judge.canonical();                   // 8 bytes are the product
        int first = judge.out(0);                       // 60: the first of them is <
        int back = judge.back();                        // 8: the product is what came in
        int again = judge.judge();                      // 1: it is well formed, too
        // the example ends
        int[] answers = {came, answer, fault, none, name, size, first, back, again};
        int at = 0;
        for (String line : lines.split("\n")) {
            if (line.trim().startsWith("int ")) {
                Check.due(line.trim(), answers[at], Integer.parseInt(line.replaceAll(".*// (\\d+).*", "$1")));
                at++;
            }
        }
        Check.due("all of it", at, answers.length);
    }

    private static void tests(String readme) throws IOException {
        try (DirectoryStream<Path> files = Files.newDirectoryStream(Path.of("src/test/java"), "*Test.java")) {
            for (Path file : files) {
                String name = file.getFileName().toString().replace(".java", "");
                Check.due("README.md names " + name, readme.contains("| `" + name + "` |"), true);
            }
        }
    }
}
