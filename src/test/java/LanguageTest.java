import java.nio.file.Files;
import java.nio.file.Path;
import java.util.regex.Matcher;
import java.util.regex.Pattern;

/** Rules of ../shared/LANGUAGE.md that can be seen in the text of the program. */
public final class LanguageTest {
    private static final String[] NEVER = {
        "\\bthrow\\b", "\\bthrows\\b", "\\btry\\b", "\\bcatch\\b", "\\bfinally\\b", "\\bsynchronized\\b", "\\bassert\\b",
        "\\bimport\\b", "\\bpackage\\b", "\\bprotected\\b", "\\bvolatile\\b", "\\bnative\\b", "\\btransient\\b",
        "\\bwhile\\b", "->", "::", "\\w*Exact\\b", "\\bhashCode\\b", "\\btoString\\b", "\\bequals\\b", "\\bRandom\\b",
        "\\bThread\\b", "\\bsuper\\b", "\\bextends\\b", "\\[\\]\\s*\\[\\]\\s*\\[\\]", "\\bstatic\\s*\\{",
        "\\bSystem\\.(?!arraycopy\\b)", "\\bfor\\s*\\(\\s*;\\s*;",
    };

    public static void main(String[] args) throws Exception {
        Check check = new Check();
        String source = Files.readString(Path.of("src/main/java/RxQueues.java"));
        for (int i = 0; i < source.length(); i++) {
            if (source.charAt(i) > 126) {
                check.due("sign at " + i, source.charAt(i), ' ');
            }
        }
        String code = source.replaceAll("(?s)/\\*.*?\\*/", "").replaceAll("//[^\n]*", "");
        for (String one : NEVER) {
            check.due("times of " + one, times(code, one), 0);
        }
        check.due("static fields that are not final",
            times(code, "\\bstatic\\s+(?!final\\b)[\\w\\[\\]]+\\s+\\w+\\s*[=;]"), 0);
        check.due("public members of the document", times(code, "(?m)^    public "), 44);
        lookAtLengths(check, source.split("\n"));
        check.finish();
    }

    private static int times(String code, String pattern) {
        Matcher m = Pattern.compile(pattern).matcher(code);
        int all = 0;
        while (m.find()) {
            all++;
        }
        return all;
    }

    /** Methods stand at 4 or 8 blanks, and end with a brace there. */
    private static void lookAtLengths(Check check, String[] lines) {
        for (String indent : new String[] {"    ", "        "}) {
            int start = -1;
            for (int i = 0; i < lines.length; i++) {
                if (lines[i].matches(indent + "[\\w].*\\(.*\\) \\{") && !lines[i].contains(" class ")) {
                    start = i;
                }
                if (start >= 0 && lines[i].equals(indent + "}")) {
                    check.due("line " + (start + 1) + ": a short method", i - start < 60, true);
                    start = -1;
                }
            }
        }
    }
}
