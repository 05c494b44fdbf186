import java.io.IOException;
import java.nio.file.Files;
import java.nio.file.Path;
import java.util.regex.Matcher;
import java.util.regex.Pattern;

/** What of ../shared/LANGUAGE.md can be seen in the source's words; the rest is for who reads it. */
public final class LanguageTest {
    private static final String[] FORBIDDEN = {"\\bthrow\\b", "\\bthrows\\b", "\\btry\\b", "\\bcatch\\b", "\\bfinally\\b",
        "\\bsynchronized\\b", "\\bassert\\b", "\\bvolatile\\b", "\\btransient\\b", "\\bnative\\b", "->", "::", "@",
        "\\bimport\\b", "\\bpackage\\b", "\\bObject\\b", "\\bThread\\b", "\\bRandom\\b", "\\w+Exact\\b", "\\bprotected\\b",
        "currentTimeMillis", "nanoTime", "getenv", "getProperty", "hashCode", "toString", "\\bvar\\b", "static \\{",
        "while \\(true\\)", "for \\(;;"};
    private static final int LONGEST_METHOD = 60, MOST_PARAMETERS = 7;

    public static void main(String[] args) throws IOException {
        String source = Files.readString(Path.of("src/main/java/DearerByUse.java"));
        String code = source.replaceAll("(?s)/\\*.*?\\*/", "").replaceAll("//[^\n]*", "").replaceAll("\"[^\"\n]*\"", "\"\"");
        for (String word : FORBIDDEN) Checks.due("times " + word, times(code, word), 0);
        for (int i = 0; i < source.length(); i++) {
            if (source.charAt(i) > 126) Checks.due("a sign at " + i, source.charAt(i), 126);
        }
        methods(code);
        Checks.end("LanguageTest");
    }

    private static int times(String code, String word) {
        Matcher found = Pattern.compile(word).matcher(code);
        int times = 0;
        while (found.find()) times++;
        return times;
    }

    private static void methods(String code) {
        String[] lines = code.split("\n");
        int start = -1;
        int seen = 0;
        for (int i = 0; i < lines.length; i++) {
            Matcher head = Pattern.compile("^( +)[\\w\\[\\] ]+\\(([^()]*)\\) \\{$").matcher(lines[i]);
            boolean control = lines[i].strip().matches("(if|for|while|switch|else|do|\\}).*");
            if (head.matches() && !control) {
                start = i;
                seen++;
                int parameters = head.group(2).isEmpty() ? 0 : head.group(2).split(",").length;
                Checks.due("few parameters: " + lines[i].strip(), parameters <= MOST_PARAMETERS ? 1 : 0, 1);
            }
            if (start >= 0 && lines[i].equals(lines[start].replaceAll("\\S.*", "") + "}")) {
                Checks.due("short: " + lines[start].strip(), i - start < LONGEST_METHOD ? 1 : 0, 1);
                start = -1;
            }
        }
        Checks.due("methods were seen", seen > 80 ? 1 : 0, 1);
    }
}
