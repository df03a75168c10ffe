import java.io.IOException;
import java.nio.file.Files;
import java.nio.file.Path;
import java.util.List;

/** Rules of the language that can be seen in the source's text; run from the project's folder. */
final class LanguageTest {
    private static final String[] FORBIDDEN = {"import ", "package ", "->", "::", "finally", "synchronized", "assert ",
        "catch", "try ", "System.", "Exact(", "double", "float", "native", "volatile", "protected", "static {"};

    public static void main(String[] args) throws IOException {
        List<String> lines = Files.readAllLines(Path.of("src/main/java/MateProblems.java"));
        int classes = 0;
        int methodBegan = -1;
        String method = "";
        for (int i = 0; i < lines.size(); i++) {
            String line = lines.get(i);
            String code = line.trim();
            if (code.startsWith("*") || code.startsWith("/*") || code.startsWith("//")) {
                continue;
            }
            for (String word : FORBIDDEN) {
                Check.due("line " + (i + 1) + " has " + word, code.contains(word), false);
            }
            for (char c : code.toCharArray()) {
                Check.due("line " + (i + 1) + " has character " + (int) c, c < 127, true);
            }
            classes += code.contains(" class ") ? 1 : 0;
            boolean atMemberLevel = line.matches("( {4}| {8})[a-z].*\\) .*\\{") || line.matches("( {4}| {8})[a-z].*\\(.*\\)");
            if (atMemberLevel) {
                methodBegan = i;
                method = code;
                Check.due("parameters of " + method, method.replaceAll("[^,]", "").length() < 7, true);
            }
            if (line.matches("( {4}| {8})\\}") && methodBegan >= 0) {
                Check.due("lines of " + method, i - methodBegan < 60, true);
                methodBegan = -1;
            }
        }
        Check.due("not many classes", classes <= 12, true);
        Check.end();
    }
}
