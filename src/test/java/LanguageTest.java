import java.io.IOException;
import java.nio.file.Files;
import java.nio.file.Path;
import java.util.regex.Matcher;
import java.util.regex.Pattern;

/** Words and signs that ../shared/LANGUAGE.md leaves out do not stand in the class's file. */
public final class LanguageTest {
    private static final String[] LEFT_OUT = {
        "\\b(throw|throws|try|catch|finally|synchronized|assert|import|package|var|native|volatile)\\b",
        "->", "::", "\\w+Exact\\b", "\\bSystem\\.(?!arraycopy)", "\\bObject\\b", "\\bhashCode\\b", "\\btoString\\b",
        "\\bprotected\\b", "%", " / ", "\\bThread\\b", "@",
    };

    public static void main(String[] args) throws IOException {
        String text = Files.readString(Path.of(args.length > 0 ? args[0] : "src/main/java/SmallFloats.java"));
        String code = text.replaceAll("(?s)/\\*.*?\\*/", "").replaceAll("//[^\n]*", "");
        boolean clean = true;
        for (String pattern : LEFT_OUT) {
            Matcher found = Pattern.compile(pattern).matcher(code);
            if (found.find()) {
                System.out.println("LanguageTest: '" + found.group() + "' stands in the class's file");
                clean = false;
            }
        }
        clean &= text.chars().allMatch(c -> c == '\n' || c >= ' ' && c < 127);
        if (!clean) {
            System.exit(1);
        }
    }
}
