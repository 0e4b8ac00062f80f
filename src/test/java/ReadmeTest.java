import java.lang.reflect.Method;
import java.lang.reflect.Modifier;
import java.nio.file.Files;
import java.nio.file.Path;
import java.util.ArrayList;
import java.util.List;
import java.util.regex.Matcher;
import java.util.regex.Pattern;
import javax.tools.ToolProvider;

/** That README.md's code compiles and answers what the page says, and names each call. */
public final class ReadmeTest extends Checks {
    private static final Pattern BLOCK = Pattern.compile("(?s)```java\n(.*?)```");
    private static final Pattern ANSWER = Pattern.compile("(house\\..*\\)); *// (-?\\d+): .*");

    public static void main(String[] args) throws Exception {
        String page = Files.readString(Path.of("README.md"));
        namesEachCall(page);
        Matcher blocks = BLOCK.matcher(page);
        List<String> bodies = new ArrayList<>();
        while (blocks.find()) {
            bodies.add(asked(blocks.group(1)));
        }
        due("blocks of code", bodies.size(), 3);
        run(bodies);
        finish();
    }

    private static void namesEachCall(String page) {
        for (Method m : ThreeOfThem.class.getDeclaredMethods()) {
            if (Modifier.isPublic(m.getModifiers())) {
                due("README names " + m.getName(), page.contains("`" + m.getName() + "`") ? 1 : 0, 1);
            }
        }
    }

    /** The lines of a block, each call that tells its answer being asked for it. */
    private static String asked(String block) {
        StringBuilder body = new StringBuilder();
        for (String line : block.split("\n")) {
            Matcher m = ANSWER.matcher(line);
            body.append(m.matches()
                ? "Checks.due(\"README: " + m.group(1) + "\", " + m.group(1) + ", " + m.group(2) + ");"
                : line).append('\n');
        }
        return body.toString();
    }

    private static void run(List<String> bodies) throws Exception {
        StringBuilder source = new StringBuilder("class Page { static void all() {\n");
        for (String body : bodies) {
            source.append("{\n").append(body).append("}\n");
        }
        source.append("} }\n");
        // Beside the other classes, so that the page's class finds Checks, which is no public one.
        Path out = Path.of(ReadmeTest.class.getProtectionDomain().getCodeSource().getLocation().toURI());
        Path file = out.resolve("Page.java");
        Files.writeString(file, source.toString());
        int code = ToolProvider.getSystemJavaCompiler().run(null, null, null,
            "-d", out.toString(), "-cp", out.toString(), file.toString());
        due("javac of README's code", code, 0);
        if (code == 0) {
            Method all = Class.forName("Page").getDeclaredMethod("all");
            all.setAccessible(true);
            all.invoke(null);
        }
    }
}
