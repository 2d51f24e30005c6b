import java.io.IOException;
import java.nio.file.Files;
import java.nio.file.Path;
import java.util.List;
import java.util.regex.Matcher;
import java.util.regex.Pattern;

/** The source keeps to what of LANGUAGE.md can be seen by its words: each line below names the rule. */
public final class LanguageTest {
    private static final Path SOURCE = Path.of("src/main/java/RoofLent.java");
    private static final int LONGEST = 60;
    private static int wrong = 0;

    public static void main(String[] args) throws IOException {
        String source = Files.readString(SOURCE);
        String code = withoutComments(source);
        words(code);
        signs(source);
        arrays(code);
        methods(code);
        System.out.println(wrong == 0 ? "the language is kept to" : wrong + " faults of language");
        if (wrong != 0) {
            System.exit(1);
        }
    }

    private static void none(String rule, String code, String pattern) {
        Matcher found = Pattern.compile(pattern).matcher(code);
        while (found.find()) {
            wrong++;
            System.out.println("rule " + rule + ": " + found.group());
        }
    }

    private static String withoutComments(String source) {
        return source.replaceAll("(?s)/\\*.*?\\*/", "").replaceAll("//[^\n]*", "");
    }

    private static void words(String code) {
        none("1", code, "\\b(package|import|protected)\\b[^\n]*");
        none("2", code, "->|::|\\b(extends|implements|native|transient|volatile)\\b");
        none("2", code, "(?<!static final )class (?!RoofLent\\b)\\w+");
        none("3", code, "\\b(float|double|var|Object|Long|Short|Byte|Character|Boolean)\\b(?!\\.)");
        none("4", code, "\\w+Exact\\b|\\b(Collections|Objects|Stream|Map|Set|HashMap|Optional|Scanner)\\b");
        none("4", code, "\\bSystem\\.(?!arraycopy\\b)\\w+");
        none("5", code, "\\bstatic\\s*\\{|private static (?!final|int|long|boolean)\\w+");
        none("6", code, "\\b(throw|throws|try|catch|finally|synchronized|assert|hashCode|equals|toString)\\b");
        none("11, 12", code, "\\bnew (ArrayList|StringBuilder|String)\\b");
        none("13", code, "\\b(Random|Thread|currentTimeMillis|nanoTime|getenv)\\b");
    }

    private static void signs(String source) {
        for (int i = 0; i < source.length(); i++) {
            char sign = source.charAt(i);
            if (sign != '\n' && (sign < 32 || sign > 126)) {
                wrong++;
                System.out.println("a sign that is none such: " + (int) sign);
            }
        }
    }

    /** All that is made is made where fields are: no call makes anything, so a run's room is one object's. */
    private static void arrays(String code) {
        List<String> makers = List.of("private final", "kept[k] = new Story(MISSING)", "sizes = new int", "places = new int");
        for (String line : code.split("\n")) {
            if (line.contains("new ") && makers.stream().noneMatch(line::contains)) {
                wrong++;
                System.out.println("rule 12: " + line);
            }
        }
    }

    private static void methods(String code) {
        Matcher heads = Pattern.compile("\n( +)(?:[\\w\\[\\]]+ )*(\\w+)\\(([^)]*)\\) \\{\n").matcher(code);
        while (heads.find()) {
            int end = code.indexOf("\n" + heads.group(1) + "}", heads.end());
            long lines = code.substring(heads.start() + 1, Math.max(end, heads.start() + 1)).lines().count() + 1;
            long parameters = heads.group(3).chars().filter(sign -> sign == ',').count() + 1;
            if (end < 0 || lines > LONGEST || parameters > 7) {
                wrong++;
                System.out.println("rule 11: " + heads.group(2) + " has " + lines + " lines, " + parameters + " parameters");
            }
        }
    }
}
