import java.io.IOException;
import java.nio.file.Files;
import java.nio.file.Path;
import java.util.regex.Matcher;
import java.util.regex.Pattern;

/** The rules of LANGUAGE.md that a look at the text can tell. */
public final class LanguageTest {
    private static final String[] FORBIDDEN = {
        "\\b(throw|throws|try|catch|finally|synchronized|assert|package|protected|volatile|native)\\b",
        "->", "::", "\\bimport (?!java\\.util\\.(Arrays|ArrayList|List|Iterator);)",
        "\\bThread\\b", "\\bObject\\b", "\\bSystem\\.(?!arraycopy)", "Exact\\(", "\\.hashCode\\(", "\\.toString\\(",
        "static\\s*\\{",
    };

    public static void main(String[] args) throws IOException {
        Check check = new Check("language");
        String text = Files.readString(Path.of("src/main/java/DerivativeCompiler.java"));
        String code = text.replaceAll("(?s)/\\*.*?\\*/", "").replaceAll("//.*", "");
        for (String pattern : FORBIDDEN) {
            Matcher matcher = Pattern.compile(pattern).matcher(code);
            check.due("looking for " + pattern, matcher.find() ? 1 : 0, 0);
        }
        check.finish();
    }
}
