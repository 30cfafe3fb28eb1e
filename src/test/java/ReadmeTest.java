import java.io.IOException;
import java.lang.reflect.Method;
import java.lang.reflect.Modifier;
import java.nio.file.Files;
import java.nio.file.Path;
import java.util.Set;
import java.util.TreeSet;
import java.util.regex.Matcher;
import java.util.regex.Pattern;

/** README.md's example must answer as it says there, and its tables must name each call and each test. */
public final class ReadmeTest {
    public static void main(String[] args) throws IOException {
        String page = Files.readString(Path.of("README.md"));
        example(page.substring(page.indexOf("```java") + "```java".length(), page.indexOf("```\n\n")));
        calls(page);
        tests(page);
        Check.end();
    }

    /** Its calls on 'nets', with the answers of its comments, become a run that Script reads. */
    private static void example(String code) {
        Matcher text = Pattern.compile("String text = \"([^\"]*)\";").matcher(code);
        Check.due("the example has a text", text.find() ? 1 : 0, 1);
        StringBuilder run = new StringBuilder("feed<" + text.group(1) + ">");
        Matcher call = Pattern.compile("(?m)^nets\\.(\\w+\\([^)]*\\)); +// (-?\\d+|[A-Z]+):").matcher(code);
        int seen = 0;
        while (call.find()) {
            seen++;
            run.append(' ').append(call.group(1)).append('=').append(call.group(2));
        }
        Check.due("each line of the example that starts with a call tells its answer", seen,
            code.lines().filter(line -> line.startsWith("nets.")).count());
        Script.edge("README.md", run.toString());
    }

    private static void calls(String page) {
        Set<String> told = new TreeSet<>();
        Matcher call = Pattern.compile("`(\\w+)\\(([^)]*)\\)`").matcher(page.substring(page.indexOf("### The calls"), page.indexOf("## How it is built")));
        while (call.find()) told.add(call.group(1) + " " + (call.group(2).isEmpty() ? 0 : call.group(2).split(",").length));
        Set<String> are = new TreeSet<>();
        for (Method m : FogNets.class.getDeclaredMethods()) {
            if (Modifier.isPublic(m.getModifiers())) are.add(m.getName() + " " + m.getParameterCount());
        }
        if (!told.equals(are)) System.out.println(told + "\n" + are);
        Check.due("the table has each call", told.equals(are) ? 1 : 0, 1);
    }

    private static void tests(String page) throws IOException {
        try (var files = Files.list(Path.of("src/test/java"))) {
            for (Path file : files.sorted().toList()) {
                String name = file.getFileName().toString().replace(".java", "");
                if (name.endsWith("Test")) Check.due("the table has " + name, page.contains("| " + name + " |") ? 1 : 0, 1);
            }
        }
    }
}
