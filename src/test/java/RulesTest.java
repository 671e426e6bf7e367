import java.io.IOException;
import java.nio.file.Files;
import java.nio.file.Path;
import java.util.regex.Matcher;
import java.util.regex.Pattern;

/** Those rules of ../shared/LANGUAGE.md that can be seen in the text of the class. */
public final class RulesTest {
    private static final Due DUE = new Due();
    private static final String[] FORBIDDEN = {
        "\\b(throw|throws|try|catch|finally|synchronized|assert|volatile|transient|native|protected)\\b",
        "->", "::", "@", "\\b\\w+Exact\\b", "\\bSystem\\.(?!arraycopy)", "\\bpackage\\b", "\\bjava\\.(?!util\\.Arrays;)",
        "\\b(Object|Random|Thread|Runtime|Class|HashMap|Map|Set|Optional|Stream|Iterator)\\b",
        "\\.(equals|hashCode|toString|getClass|format|split)\\b", "\\bstatic \\{", "\\bdouble\\b|\\bfloat\\b",
        "while \\(true\\)", "for \\(;;\\)"};

    public static void main(String[] args) throws IOException {
        String source = Files.readString(Path.of("src/main/java/SugarBelow.java"));
        String code = source.replaceAll("(?s)/\\*.*?\\*/", "").replaceAll("//[^\n]*", "");
        for (String word : FORBIDDEN) {
            Matcher found = Pattern.compile(word).matcher(code);
            DUE.is("forbidden: " + word, found.find() ? 1 : 0, 0);
        }
        boolean plain = true;
        for (int i = 0; i < source.length(); i++) {
            plain &= source.charAt(i) < 127;
        }
        DUE.is("signs above 126", plain ? 0 : 1, 0);
        methods(code);
        DUE.is("classes, too many", Math.max(12, code.split("\\bclass ").length - 1), 12);
        DUE.end();
    }

    /** A method begins four or eight columns in and ends with a brace in the same column. */
    private static void methods(String code) {
        String[] lines = code.split("\n");
        String indent = "";
        int begun = -1;
        int seen = 0;
        for (int i = 0; i < lines.length; i++) {
            if (begun < 0 && lines[i].matches(" {4,8}\\w[\\w\\[\\] ]*\\([^()]*\\) \\{")) {
                begun = i;
                indent = lines[i].replaceAll("\\S.*", "");
                int parameters = lines[i].split(",").length;
                DUE.is("parameters, too many: " + lines[i], Math.max(7, parameters), 7);
            } else if (begun >= 0 && lines[i].equals(indent + "}")) {
                DUE.is("lines, too many: " + lines[begun], Math.max(60, i - begun + 1), 60);
                begun = -1;
                seen++;
            }
        }
        DUE.is("methods seen, too few", Math.min(seen, 100), 100);
    }
}
