import java.lang.reflect.Method;
import java.lang.reflect.Modifier;
import java.net.URL;
import java.net.URLClassLoader;
import java.nio.file.Files;
import java.nio.file.Path;
import java.util.ArrayList;
import java.util.List;
import java.util.regex.Matcher;
import java.util.regex.Pattern;
import javax.tools.ToolProvider;

/** README.md is true: its Java is compiled, each call in it is asked, and each call of the face stands in it. */
final class ReadmeTest {
    private static final Path README = Path.of("README.md"), OUT = Path.of("build", "readme");
    private static final Pattern ASKED = Pattern.compile("(x\\.\\w+\\(.*\\));\\s+// (-?\\d+)\\b.*");

    private final List<String> calls = new ArrayList<>();
    private final List<Long> answers = new ArrayList<>();

    public static void main(String[] args) throws Exception {
        List<String> lines = Files.readAllLines(README);
        new ReadmeTest().asks(lines);
        namesEachCall(String.join("\n", lines));
        Check.finish();
    }

    private void asks(List<String> lines) throws Exception {
        long[] got = answered(source(lines));
        Check.due("README.md: calls in its Java", got.length > 0 ? 1 : 0, 1);
        for (int i = 0; i < got.length; i++) {
            Check.due("README.md: " + calls.get(i), got[i], answers.get(i));
        }
    }

    /** Its Java as a class that answers what each call with a number behind it answers. */
    private String source(List<String> lines) {
        StringBuilder body = new StringBuilder();
        boolean inside = false;
        for (String line : lines) {
            if (line.startsWith("```")) {
                inside = line.equals("```java");
            } else if (inside) {
                body.append(asking(line)).append('\n');
            }
        }
        return "public final class ReadmeUse {\n public static long[] answers() {\n long[] got = new long["
            + calls.size() + "];\n" + body + " return got;\n }\n}\n";
    }

    private String asking(String line) {
        Matcher asked = ASKED.matcher(line);
        if (!asked.matches()) {
            Check.due("README.md: no answer stands behind " + line, line.startsWith("x.") ? 1 : 0, 0);
            return line;
        }
        calls.add(asked.group(1));
        answers.add(Long.parseLong(asked.group(2)));
        return "got[" + (calls.size() - 1) + "] = " + asked.group(1) + ";";
    }

    private static long[] answered(String source) throws Exception {
        Path file = OUT.resolve("ReadmeUse.java");
        Files.createDirectories(OUT);
        Files.writeString(file, source);
        int refused = ToolProvider.getSystemJavaCompiler().run(null, null, null,
            "-cp", System.getProperty("java.class.path"), "-d", OUT.toString(), file.toString());
        Check.due("README.md: its Java compiles", refused, 0);
        if (refused != 0) {
            return new long[0];
        }
        try (URLClassLoader loader = new URLClassLoader(new URL[] {OUT.toUri().toURL()})) {
            return (long[]) loader.loadClass("ReadmeUse").getMethod("answers").invoke(null);
        }
    }

    private static void namesEachCall(String readme) {
        for (Method method : GlassesOfRue.class.getDeclaredMethods()) {
            if (Modifier.isPublic(method.getModifiers())) {
                Matcher named = Pattern.compile("`" + method.getName() + "\\(([^)`]*)\\)`").matcher(readme);
                boolean found = named.find();
                int parameters = !found || named.group(1).isEmpty() ? 0 : named.group(1).split(", ").length;
                Check.due("README.md: a table names " + method.getName(), found ? 1 : 0, 1);
                Check.due("README.md: parameters of " + method.getName(), parameters, method.getParameterCount());
            }
        }
    }
}
