import java.io.IOException;
import java.nio.file.Files;
import java.nio.file.Path;
import java.util.regex.Matcher;
import java.util.regex.Pattern;

/** The source keeps to what of LANGUAGE.md can be seen by its words: each line below names the rule. */
public final class LanguageTest {
    private static final Path SOURCE = Path.of("src/main/java/RoofLent.java");
    // The rule says "some sixty lines": a few more are none too many.
    private static final int LONGEST = 65, MOST_PARAMETERS = 7;
    private static int wrong = 0;

    public static void main(String[] args) throws IOException {
        String source = Files.readString(SOURCE);
        String code = withoutComments(source);
        words(code);
        signs(source);
        methods(code);
        System.out.println(wrong == 0 ? "the language is kept to" : wrong + " faults of language");
        if (wrong != 0) {
            System.exit(1);
        }
    }

    private static void none(String rule, String code, String pattern) {
        Matcher found = Pattern.compile(pattern).matcher(code);
        while (found.find()) {
            wrong++;
            System.out.println("rule " + rule + ": " + found.group());
        }
    }

    private static String withoutComments(String source) {
        return source.replaceAll("(?s)/\\*.*?\\*/", "").replaceAll("//[^\n]*", "");
    }

    private static void words(String code) {
        none("1", code, "\\b(package|protected)\\b[^\n]*|\\bimport (?!java\\.util\\.(ArrayList|List|Arrays|Iterator);)[^\n]*");
        none("2", code, "::|\\b(native|transient|volatile)\\b");
        none("2", code.replaceAll("\\b(case\\b[^\n]*?|default) ->", ""), "->");
        none("2", code, "(?<!static )(?<!static final )(?<!static abstract )\\bclass (?!RoofLent\\b)\\w+");
        none("3", code, "\\b(Object|Long|Short|Byte|Character|Boolean|Double|Float)\\b(?!\\.)");
        none("4", code, "\\w+Exact\\b|\\b(Collections|Objects|Stream|Map|Set|HashMap|Optional|Scanner)\\b");
        none("4", code, "\\bSystem\\.(?!arraycopy\\b)\\w+");
        none("5", code, "\\bstatic\\s*\\{|\\bstatic (?!final\\b)[\\w<>\\[\\]]+ \\w+( =|;|,)");
        none("6", code, "\\b(throw|throws|try|catch|finally|synchronized|assert|hashCode)\\b");
        none("10", code, "\"[^\"\n]*\" \\+|\\+ \"");
        none("13", code, "\\b(Random|Thread|currentTimeMillis|nanoTime|getenv)\\b");
    }

    private static void signs(String source) {
        for (int i = 0; i < source.length(); i++) {
            char sign = source.charAt(i);
            if (sign < 1 || sign > 127) {
                wrong++;
                System.out.println("rule 4: a sign that is none such: " + (int) sign);
            }
        }
    }

    private static void methods(String code) {
        Matcher heads = Pattern.compile("\n( +)(?:[\\w\\[\\]]+ )*(\\w+)\\(([^)]*)\\) \\{\n").matcher(code);
        while (heads.find()) {
            int end = code.indexOf("\n" + heads.group(1) + "}", heads.end());
            long lines = code.substring(heads.start() + 1, Math.max(end, heads.start() + 1)).lines().count() + 1;
            long parameters = heads.group(3).chars().filter(sign -> sign == ',').count() + 1;
            if (end < 0 || lines > LONGEST || parameters > MOST_PARAMETERS) {
                wrong++;
                System.out.println("rule 11: " + heads.group(2) + " has " + lines + " lines, " + parameters + " parameters");
            }
        }
    }
}
