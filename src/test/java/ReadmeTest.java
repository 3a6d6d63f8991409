import java.io.ByteArrayOutputStream;
import java.io.PrintStream;
import java.nio.file.Files;
import java.nio.file.Path;
import java.util.ArrayList;
import java.util.List;
import java.util.regex.Matcher;
import java.util.regex.Pattern;

/** The program in README.md is the one that stands among the tests, and prints what its comments say. */
public final class ReadmeTest {
    private static final Pattern SAID = Pattern.compile(";\\s+// (.*: -?\\d+)$");

    private static String programIn(String readme) {
        String start = "```java\n";
        int from = readme.indexOf(start) + start.length();
        return readme.substring(from, Math.max(from, readme.indexOf("```", from)));
    }

    private static List<String> said(String program) {
        List<String> lines = new ArrayList<>();
        for (String line : program.split("\n")) {
            Matcher m = SAID.matcher(line);
            if (m.find()) {
                lines.add(m.group(1));
            }
        }
        return lines;
    }

    private static List<String> printed() {
        PrintStream usual = System.out;
        ByteArrayOutputStream bytes = new ByteArrayOutputStream();
        System.setOut(new PrintStream(bytes, true));
        try {
            Market.main(new String[0]);
        } finally {
            System.setOut(usual);
        }
        return List.of(bytes.toString().split("\\R"));
    }

    public static void main(String[] args) throws Exception {
        Due due = new Due();
        String program = programIn(Files.readString(Path.of("README.md")));
        due.is("README's program is Market.java",
                program.equals(Files.readString(Path.of("src/test/java/Market.java"))), true);
        List<String> said = said(program);
        List<String> printed = printed();
        due.is("answers said", said.size(), 18);
        due.is("answers printed", printed.size(), 18);
        for (int i = 0; i < said.size() && i < printed.size(); i++) {
            due.is(said.get(i) + " is said, printed is " + printed.get(i), said.get(i).equals(printed.get(i)), true);
        }
        due.end();
    }
}
