import java.io.IOException;
import java.net.URL;
import java.net.URLClassLoader;
import java.nio.file.Files;
import java.nio.file.Path;
import java.util.ArrayList;
import java.util.List;
import java.util.Set;
import java.util.TreeSet;
import java.util.regex.Matcher;
import java.util.regex.Pattern;

/** The blocks of Java in README.md are one program, and each call of it that is followed by an answer answers so. */
public final class ReadmeTest {
    private static final Path PAGE = Path.of("README.md");
    private static final Pattern BLOCK = Pattern.compile("(?s)```java\n(.*?)```");
    private static final String ANSWER = "([A-Z]+|-?\\d+)";
    private static final Pattern TOLD = Pattern.compile(" *(x\\.(\\w+)\\(.*\\)); *// " + ANSWER + "((?:, \\w+\\(\\) " + ANSWER + ")*)(:.*)?");
    private static final Pattern BEHIND = Pattern.compile(", ((\\w+)\\(\\)) " + ANSWER);
    private static final String[] CALLS = ("row lay at tear copy mean text put fault rock tower house mark bear build leave undo keep"
        + " on shades sees owes debt light ruined sways best both fewest relief high settle rings game begin fog kinds odds lots"
        + " asked upper lower count finding findings digest").split(" ");
    private static final Check c = new Check();
    private static final Set<String> seen = new TreeSet<>();

    public static void main(String[] args) throws Exception {
        String program = program(Files.readString(PAGE));
        Path out = Files.createTempDirectory("readme");
        try {
            run(out, program);
        } finally {
            remove(out);
        }
        for (String call : CALLS) {
            c.due("README.md shows an answer of " + call + "()", seen.contains(call) ? 1 : 0, 1);
        }
        c.end();
    }

    private static String program(String page) {
        StringBuilder lines = new StringBuilder("public class Readme { public static void run(java.util.List<Object[]> all) {\n");
        Matcher blocks = BLOCK.matcher(page);
        while (blocks.find()) {
            for (String line : blocks.group(1).split("\n")) {
                lines.append(line.contains("//") ? compared(line) : line).append('\n');
            }
        }
        return lines.append("} }\n").toString();
    }

    private static String compared(String line) {
        Matcher told = TOLD.matcher(line);
        c.due("README.md, an answer that can be read: " + line, told.matches() ? 1 : 0, 1);
        if (!told.matches()) {
            return "";
        }
        seen.add(told.group(2));
        StringBuilder all = new StringBuilder(answered(told.group(1), told.group(1), told.group(3)));
        Matcher behind = BEHIND.matcher(told.group(4));
        while (behind.find()) {
            seen.add(behind.group(2));
            all.append(answered(told.group(1) + ", then " + behind.group(1), "x." + behind.group(1), behind.group(3)));
        }
        return all.toString();
    }

    private static String answered(String name, String call, String want) {
        String number = Character.isLetter(want.charAt(0)) ? "RoofLent." + want : want + "L";
        return "all.add(new Object[] {\"README.md, " + name.replace("\"", "\\\"") + "\", (long) " + call + ", (long) " + number + "}); ";
    }

    private static void run(Path out, String program) throws Exception {
        Path file = Files.writeString(out.resolve("Readme.java"), program);
        String classes = System.getProperty("java.class.path");
        int failed = new ProcessBuilder("javac", "-cp", classes, "-d", out.toString(), file.toString()).inheritIO().start().waitFor();
        c.due("README.md, faults of its Java", failed, 0);
        if (failed != 0) {
            return;
        }
        List<Object[]> all = new ArrayList<>();
        try (URLClassLoader loader = new URLClassLoader(new URL[] {out.toUri().toURL()}, ReadmeTest.class.getClassLoader())) {
            loader.loadClass("Readme").getMethod("run", List.class).invoke(null, all);
        }
        for (Object[] each : all) {
            c.due((String) each[0], (Long) each[1], (Long) each[2]);
        }
    }

    private static void remove(Path out) throws IOException {
        Files.deleteIfExists(out.resolve("Readme.class"));
        Files.deleteIfExists(out.resolve("Readme.java"));
        Files.deleteIfExists(out);
    }
}
