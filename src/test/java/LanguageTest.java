import java.io.IOException;
import java.nio.file.Files;
import java.nio.file.Path;
import java.util.ArrayList;
import java.util.List;
import java.util.TreeMap;
import java.util.TreeSet;
import java.util.regex.Matcher;
import java.util.regex.Pattern;

/** What of LANGUAGE.md can be seen in the source by its words alone. */
public final class LanguageTest {
    private static final String[] FORBIDDEN = {
        "\\b(throw|throws|try|catch|finally|synchronized|assert|package|native|volatile|transient|protected|var)\\b",
        "->", "::", "\\b(System\\.(?!arraycopy)|Random|Thread|Exception|Object|File|Math\\.random)",
        "Exact\\(", "\\+ \"", "\" \\+", "\\b(hashCode|toString|equals)\\b.*\\{", "\\bnew \\w+(\\[\\w+\\])?\\([^)]*\\) \\{",
        "\\b(double|float)\\b", "\\binstanceof\\b", "^import (?!java\\.util\\.Arrays;)", "^\\s*static \\{",
        "\\bstatic (?!final|class|boolean|int|long)"
    };

    public static void main(String[] args) throws IOException {
        List<String> lines = Files.readAllLines(Path.of("src/main/java/CakeCards.java"));
        List<String> wrong = new ArrayList<>();
        words(lines, wrong);
        face(lines, wrong);
        lengths(lines, wrong);
        for (String w : wrong) {
            System.out.println(w);
        }
        if (!wrong.isEmpty()) {
            System.exit(1);
        }
        System.out.println("the source keeps to what a reader of words can see");
    }

    private static String bare(String line) {
        return line.replaceAll("^\\s*(/\\*\\*|\\*|//).*", "").replaceAll("\"[^\"]*\"", "\"\"");
    }

    private static void words(List<String> lines, List<String> wrong) {
        for (int i = 0; i < lines.size(); i++) {
            for (char c : lines.get(i).toCharArray()) {
                if (c > 126) {
                    wrong.add("line " + (i + 1) + ": a sign beyond 126");
                }
            }
            for (String word : FORBIDDEN) {
                if (Pattern.compile(word).matcher(bare(lines.get(i))).find()) {
                    wrong.add("line " + (i + 1) + ": " + word + " in " + lines.get(i));
                }
            }
        }
    }

    /** Every member of the class itself is of the document's face, or private; no name stands for both. */
    private static void face(List<String> lines, List<String> wrong) {
        TreeSet<String> open = new TreeSet<>();
        TreeSet<String> hidden = new TreeSet<>();
        for (String line : lines) {
            Matcher m = Pattern.compile("^    (?:    )?(public|private) .*?(\\w+)\\(.*\\{$").matcher(line);
            if (m.find()) {
                (m.group(1).equals("public") ? open : hidden).add(m.group(2));
            }
            if (line.matches("^    \\w.*[;{]$") && !line.matches("^    (public|private) .*")) {
                wrong.add("neither public nor private: " + line);
            }
        }
        if (open.size() != 37) {
            wrong.add("not 36 methods and the constructor: " + open.size());
        }
        for (String name : hidden) {
            if (open.contains(name)) {
                wrong.add("private and public: " + name);
            }
        }
    }

    private static void lengths(List<String> lines, List<String> wrong) {
        TreeMap<String, Integer> fields = new TreeMap<>();
        String type = "";
        int classes = 0;
        int start = -1;
        for (int i = 0; i < lines.size(); i++) {
            String line = lines.get(i);
            if (line.matches("^(    private static|public) final class .*")) {
                classes++;
                type = line;
            }
            if (line.matches("^\\s+private (final )?[\\w\\[\\]]+ \\w+( = .*)?;$")) {
                fields.merge(type, 1, Integer::sum);
            }
            if (line.matches("^ {4}(    )?[\\w\\[\\] ]+\\(.*\\) \\{$")) {
                start = i;
                if (line.chars().filter(c -> c == ',').count() > 6) {
                    wrong.add("more than seven parameters: " + line);
                }
            }
            if (line.matches("^ {4}(    )?\\}$") && start >= 0) {
                if (i - start > 60) {
                    wrong.add("a long method at line " + (start + 1));
                }
                start = -1;
            }
        }
        if (classes > 12) {
            wrong.add("more than twelve classes");
        }
        for (String t : fields.keySet()) {
            if (fields.get(t) > 20) {
                wrong.add("more than twenty fields: " + t);
            }
        }
    }
}
