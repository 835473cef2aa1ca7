import java.io.IOException;
import java.nio.charset.StandardCharsets;
import java.nio.file.Files;
import java.nio.file.Path;
import java.util.List;

/** What of ../shared/LANGUAGE.md can be seen from the lines of the source. */
public final class LanguageTest {
    private static final String[] FORBIDDEN = {
        "->", "::", "Exact(", "\" +", "+ \"", "finally", "catch", "synchronized", "assert", "getMessage", "static {",
        "Object", "HashMap", "String.", "Math.floor(", "Random", "System.out", "System.current", "protected", "@",
    };
    private static final int MOST_LINES = 60;
    private static final int MOST_PARAMETERS = 7;

    public static void main(String[] args) throws IOException {
        List<String> lines = Files.readAllLines(Path.of("src/main/java/MirageSurvey.java"), StandardCharsets.US_ASCII);
        int start = 0;
        for (int index = 0; index < lines.size(); index++) {
            String line = lines.get(index);
            String code = line.replaceAll("'[^']*'", "").replaceAll("\"[^\"]*\"", "\"\"").replaceAll("/?\\*.*", "");
            for (String word : FORBIDDEN) {
                Check.is("line " + (index + 1) + " holds " + word, code.contains(word), false);
            }
            if (line.startsWith("import ")) {
                Check.is("import", line, "import java.util.NoSuchElementException;");
            }
            if (code.endsWith(") {") && !code.strip().startsWith("}")) {
                Check.is("parameters at " + (index + 1), code.split(",").length <= MOST_PARAMETERS, true);
            }
            if (line.matches("( {4}| {8})[a-zA-Z].*[({].*\\{")) {
                start = index;
            }
            if (line.matches("( {4}| {8})}") && lines.get(start).indexOf(lines.get(start).strip()) == line.indexOf('}')) {
                Check.is("lines of what starts at " + (start + 1), index - start <= MOST_LINES, true);
            }
        }
        Check.end();
    }
}
