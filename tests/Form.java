import java.io.IOException;
import java.nio.charset.StandardCharsets;
import java.nio.file.Files;
import java.nio.file.Path;
import java.util.List;
import java.util.regex.Matcher;
import java.util.regex.Pattern;

// What LANGUAGE.md forbids of the program's text, as far as it can be seen from words and lines.
public final class Form {
    private static final String[] FORBIDDEN = {
        "\\bthrow\\b", "\\bthrows\\b", "\\btry\\b", "\\bcatch\\b", "\\bfinally\\b", "\\bsynchronized\\b",
        "\\bassert\\b", "\\bpackage\\b", "->", "::", "@", "\\bprotected\\b", "\\bvolatile\\b", "\\bthis\\b\\s*\\)",
        "\\bSystem\\b", "\\bThread\\b", "\\bRandom\\b", "\\w*Exact\\b", "\\bObject\\b", "\\bequals\\b",
        "\\bhashCode\\b", "\\btoString\\b", "\\bfloat\\b", "\\bdouble\\b", "while \\(true\\)", "for \\(;;\\)",
        "\" \\+", "\\+ \"", "static \\{"};
    private static final int METHOD_MOST = 60, WIDTH_MOST = 120;
    private static int wrong = 0;

    private static void fault(String what) {
        wrong++;
        System.out.println(what);
    }

    private static String withoutRemarks(String line) {
        String code = line.replaceAll("//.*", "").replaceAll("/\\*\\*.*?\\*/", "");
        return code.trim().startsWith("*") ? "" : code;
    }

    private static void words(List<String> lines) {
        for (int i = 0; i < lines.size(); i++) {
            String code = withoutRemarks(lines.get(i));
            for (String pattern : FORBIDDEN) {
                Matcher m = Pattern.compile(pattern).matcher(code);
                if (m.find()) {
                    fault("line " + (i + 1) + ": '" + m.group() + "' is none of the language");
                }
            }
            if (code.startsWith("import ") && !code.equals("import java.util.Arrays;")) {
                fault("line " + (i + 1) + ": no such import");
            }
            if (lines.get(i).length() > WIDTH_MOST) {
                fault("line " + (i + 1) + " is too wide");
            }
            if (!lines.get(i).chars().allMatch(c -> c >= 32 && c <= 126)) {
                fault("line " + (i + 1) + " has another sign than 32 .. 126");
            }
        }
    }

    /** A method begins and ends at the same indent. */
    private static void lengths(List<String> lines) {
        Pattern head = Pattern.compile("^( {4}| {8})(?!return|if|for|while|switch|else)[a-zA-Z].*\\) \\{$");
        for (int i = 0; i < lines.size(); i++) {
            Matcher m = head.matcher(lines.get(i));
            if (m.find()) {
                int end = i;
                while (end < lines.size() && !lines.get(end).equals(m.group(1) + "}")) {
                    end++;
                }
                if (end - i + 1 > METHOD_MOST) {
                    fault("line " + (i + 1) + ": a method of " + (end - i + 1) + " lines");
                }
            }
        }
    }

    public static void main(String[] args) throws IOException {
        List<String> lines = Files.readAllLines(Path.of("src/main/java/BlueSmoke.java"), StandardCharsets.UTF_8);
        words(lines);
        lengths(lines);
        System.out.println(wrong == 0 ? "the form is as told" : wrong + " faults of form");
        if (wrong != 0) {
            System.exit(1);
        }
    }
}
