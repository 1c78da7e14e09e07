import java.io.IOException;
import java.lang.reflect.Method;
import java.lang.reflect.Modifier;
import java.nio.file.Files;
import java.nio.file.Path;
import java.util.Arrays;
import java.util.Set;
import java.util.TreeSet;
import java.util.regex.Matcher;
import java.util.regex.Pattern;

/** Makes a program of the examples of README.md, in which each answer told there is the one due. */
public final class ReadmeSource {
    private static final Pattern EXAMPLE = Pattern.compile("(?:int (\\w+) = )?(\\w+\\.\\w+\\(.*\\));\\s*// (-?\\d+): .*");
    // A README whose examples are not seen as such must not pass as one without wrong ones.
    private static final int FEWEST_EXAMPLES = 50;

    private static int wrong;

    private static void must(boolean holds, String what) {
        if (!holds) {
            wrong++;
            System.out.println("README.md: " + what);
        }
    }

    /** An example that tells an answer, as a test; all other lines stay as they are. */
    private static String asTest(String line, Matcher example) {
        String called = example.group(2);
        String kept = example.group(1);
        String due = "due(" + (kept != null ? kept : called) + ", " + example.group(3) + ", \"" + called + "\");";
        return kept != null ? line + "\n        " + due : due;
    }

    private static String programOf(String readme) {
        StringBuilder program = new StringBuilder("public final class Readme extends Tests {\n");
        program.append("    public static void main(String[] args) {\n        promise = \"README.md\";\n");
        boolean inside = false;
        int examples = 0;
        for (String line : readme.lines().toList()) {
            if (line.startsWith("```")) {
                inside = line.equals("```java");
            } else if (inside) {
                Matcher example = EXAMPLE.matcher(line);
                boolean tells = example.matches();
                examples += tells ? 1 : 0;
                must(tells || !line.matches("\\s*\\w+\\.\\w+\\(.*"), "no answer told by " + line);
                program.append("        ").append(tells ? asTest(line, example) : line).append('\n');
            }
        }
        must(examples >= FEWEST_EXAMPLES, "only " + examples + " examples");
        return program.append("        end(\"all examples hold\");\n    }\n}\n").toString();
    }

    private static void namesAllCalls(String readme) {
        Set<String> names = new TreeSet<>();
        Arrays.stream(PrimeProofs.class.getDeclaredMethods())
                .filter(m -> Modifier.isPublic(m.getModifiers())).map(Method::getName).forEach(names::add);
        for (String name : names) {
            must(readme.contains("`" + name + "`"), "no word of " + name);
        }
    }

    public static void main(String[] args) throws IOException {
        String readme = Files.readString(Path.of("README.md"));
        namesAllCalls(readme);
        Files.writeString(Path.of(args[0]), programOf(readme));
        if (wrong != 0) {
            System.exit(1);
        }
    }
}
