import java.nio.file.Files;
import java.nio.file.Path;
import java.util.regex.Matcher;
import java.util.regex.Pattern;

/** Words and signs that LANGUAGE.md keeps out of the program. */
public final class LanguageTest {
    private static final Due DUE = new Due();
    private static final String PROGRAM = "src/main/java/EachSecondStruck.java";
    private static final String[] KEPT_OUT = {
        "\\bthrow\\b", "\\btry\\b", "\\bcatch\\b", "\\bsynchronized\\b", "\\bassert\\b", "->", "::",
        "\\bpackage\\b", "\\bSystem\\.(?!arraycopy)", "\\bimport (?!java\\.util\\.Arrays;)", "Exact\\b",
        "\\bhashCode\\b", "\\btoString\\b", "\\bprotected\\b", "\\bObject\\b", "\\bvar\\b", "\\bstatic \\{",
        "[^\\x00-\\x7f]"
    };

    private LanguageTest() {
    }

    public static void main(String[] args) throws Exception {
        String text = Files.readString(Path.of(PROGRAM));
        String code = text.replaceAll("(?s)/\\*.*?\\*/", "").replaceAll("//[^\n]*", "");
        for (String out : KEPT_OUT) {
            Matcher found = Pattern.compile(out).matcher(code);
            DUE.is("the program has " + out, found.find() ? 1 : 0, 0);
        }
        Matcher state = Pattern.compile("\\bstatic (?!final )[\\w\\[\\]]+ \\w+( =|;)").matcher(code);
        DUE.is("static fields that are not final", state.find() ? 1 : 0, 0);
        DUE.end();
    }
}
