import java.io.IOException;
import java.nio.charset.StandardCharsets;
import java.nio.file.Files;
import java.nio.file.Path;
import java.util.regex.Matcher;
import java.util.regex.Pattern;

/** The source has none of the words that LANGUAGE.md leaves out. Run from the project's folder. */
public final class LanguageTest {
    private static final String[] LEFT_OUT = {
        "\\b(throw|throws|try|catch|finally|synchronized|assert|volatile|native|var|yield|sealed|package)\\b",
        "->", "::", "\\bimport (?!java\\.util\\.Arrays;)", "\\bSystem\\.(?!arraycopy\\b)",
        "\\bArrays\\.(?!fill\\b|copyOf\\b|copyOfRange\\b)", "Exact\\b", "\\bThread\\b", "\\bObject\\b",
        "\\bMath\\.(?!min\\b|max\\b)", "\\bInteger\\.(?!bitCount\\b)", "\\b(equals|hashCode|toString)\\b",
        "static \\{", "\\bfor \\(;;\\)", "\\bwhile \\(true\\)", "[^\\x00-\\x7e]"};

    public static void main(String[] args) throws IOException {
        Due due = new Due();
        String source = Files.readString(Path.of("src/main/java/RangeResolver.java"), StandardCharsets.ISO_8859_1);
        String code = source.replaceAll("(?s)/\\*.*?\\*/", "").replaceAll("//[^\\n]*", "").replaceAll("\"[^\"\\n]*\"", "\"\"");
        for (String words : LEFT_OUT) {
            Matcher m = Pattern.compile(words).matcher(code);
            due.is("left out by LANGUAGE.md", "", m.find() ? m.group() : "");
        }
        due.end();
    }
}
