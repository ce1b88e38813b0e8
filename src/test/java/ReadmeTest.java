import java.lang.reflect.Method;
import java.lang.reflect.Modifier;
import java.net.URL;
import java.net.URLClassLoader;
import java.nio.file.Files;
import java.nio.file.Path;
import java.util.ArrayList;
import java.util.List;
import java.util.regex.Matcher;
import java.util.regex.Pattern;
import javax.tools.ToolProvider;

/** README.md: each call of its examples answers what the comment behind it begins with; its table has each method. */
public final class ReadmeTest {
    private static final String PAGE = "README.md";
    private static final int FEWEST_CALLS = 30;
    private static final Pattern BLOCK = Pattern.compile("```java\n(.*?)```", Pattern.DOTALL);
    private static final Pattern CALL = Pattern.compile("(net\\.\\w+\\(.*\\)); +// (-?\\w+)(?::.*)?");
    private static final Pattern NAME = Pattern.compile("`(\\w+)`");

    public static void main(String[] args) throws Exception {
        String page = Files.readString(Path.of(PAGE));
        List<String> wrong = new ArrayList<>();
        table(page, wrong);
        examples(page, wrong);
        for (String fault : wrong) {
            System.out.println(PAGE + ": " + fault);
        }
        if (!wrong.isEmpty()) {
            System.exit(1);
        }
        System.out.println("the examples of " + PAGE + " hold");
    }

    /** Each public method stands in the table just once. */
    private static void table(String page, List<String> wrong) {
        List<String> told = new ArrayList<>();
        for (String line : page.split("\n")) {
            Matcher name = NAME.matcher(line.startsWith("| ") ? line : "");
            while (name.find()) {
                told.add(name.group(1));
            }
        }
        for (Method method : FareNumbers.class.getDeclaredMethods()) {
            if (Modifier.isPublic(method.getModifiers()) && !told.remove(method.getName())) {
                wrong.add("the table lacks " + method.getName());
            }
        }
        if (!told.isEmpty()) {
            wrong.add("the table has too much: " + told);
        }
    }

    /** Compiles the examples, one behind the other, and has each answer compared. */
    private static void examples(String page, List<String> wrong) throws Exception {
        StringBuilder steps = new StringBuilder();
        StringBuilder helpers = new StringBuilder();
        Matcher block = BLOCK.matcher(page);
        int calls = 0;
        while (block.find()) {
            if (block.group(1).contains("static ")) {
                helpers.append(block.group(1));
                continue;
            }
            for (String line : block.group(1).split("\n")) {
                Matcher call = CALL.matcher(line);
                calls += call.matches() ? 1 : 0;
                steps.append(call.matches() ? compared(call.group(1), call.group(2)) : line).append('\n');
            }
        }
        if (calls < FEWEST_CALLS) {
            wrong.add("just " + calls + " calls tell their answers");
        }
        wrong.addAll(run("public class Examples {\n" + helpers
            + "public static java.util.List<String> wrong() {\n"
            + "java.util.List<String> wrong = new java.util.ArrayList<>();\n" + steps + "return wrong;\n}\n}\n"));
    }

    private static String compared(String call, String due) {
        return "{ String got = String.valueOf(" + call + "); if (!got.equals(\"" + due + "\")) { wrong.add(\"" + call
            + " answers \" + got + \", told is " + due + "\"); } }";
    }

    @SuppressWarnings("unchecked")
    private static List<String> run(String program) throws Exception {
        Path folder = Files.createDirectories(Path.of("build", "examples"));
        Path source = folder.resolve("Examples.java");
        Files.writeString(source, program);
        int failed = ToolProvider.getSystemJavaCompiler().run(null, null, null, "-cp",
            System.getProperty("java.class.path"), "-d", folder.toString(), source.toString());
        if (failed != 0) {
            return List.of("the examples can't be compiled");
        }
        try (URLClassLoader loader = new URLClassLoader(new URL[] {folder.toUri().toURL()})) {
            return (List<String>) loader.loadClass("Examples").getMethod("wrong").invoke(null);
        }
    }
}
