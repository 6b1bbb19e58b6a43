import java.io.IOException;
import java.net.URL;
import java.net.URLClassLoader;
import java.nio.file.Files;
import java.nio.file.Path;
import java.util.ArrayList;
import java.util.Arrays;
import java.util.List;
import java.util.Set;
import java.util.TreeSet;
import java.util.regex.Matcher;
import java.util.regex.Pattern;
import javax.tools.JavaCompiler;
import javax.tools.ToolProvider;

/**
 * What README.md shows of the use of the class: its java blocks are compiled, with the answers kept,
 * and each call that a number stands behind must answer that number.
 */
public final class ReadmeTest {
    private static final Due due = new Due();
    private static final Path README = Path.of("README.md");
    private static final Path OUT = Path.of("build", "readme");
    private static final Pattern BLOCK = Pattern.compile("(?ms)^```java\\n(.*?)^```$");
    private static final Pattern SHOWN = Pattern.compile("(int \\w+ = )?(x\\.(\\w+)\\(.*\\));\\s+// (-?\\d+)(: .*)?");

    /** A call with its answer as README.md says it, in their order. */
    private record Call(String text, String method, int answer) {
    }

    private ReadmeTest() {
    }

    public static void main(String[] args) throws IOException, ReflectiveOperationException {
        List<Call> all = new ArrayList<>();
        Matcher blocks = BLOCK.matcher(Files.readString(README));
        for (int number = 1; blocks.find(); number++) {
            due.topic("README.md, block " + number);
            all.addAll(askBlock("Shown" + number, blocks.group(1)));
        }
        due.topic("README.md");
        eachCallOfTheFaceIsShown(all);
        eachRefusalIsShown(all);
        due.end();
    }

    private static List<Call> askBlock(String name, String block) throws IOException, ReflectiveOperationException {
        List<Call> calls = new ArrayList<>();
        StringBuilder code = new StringBuilder();
        boolean inLoop = false;
        for (String line : block.split("\n")) {
            Matcher shown = SHOWN.matcher(line);
            if (shown.matches()) {
                String kept = shown.group(1) == null ? "" : shown.group(1);
                code.append(kept).append("got[").append(calls.size()).append("] = ").append(shown.group(2)).append(";\n");
                calls.add(new Call(shown.group(2), shown.group(3), Integer.parseInt(shown.group(4))));
            } else {
                inLoop = line.startsWith("for ") || inLoop && !line.equals("}");
                due.isTrue("an answer stands behind " + line, inLoop || !line.contains("x."));
                code.append(line).append('\n');
            }
        }
        int[] got = run(name, code.toString(), calls.size());
        for (int i = 0; i < calls.size(); i++) {
            due.is(calls.get(i).text, got[i], calls.get(i).answer);
        }
        return calls;
    }

    private static int[] run(String name, String code, int calls) throws IOException, ReflectiveOperationException {
        Files.createDirectories(OUT);
        Path file = OUT.resolve(name + ".java");
        Files.writeString(file, "public final class " + name + " {\npublic static int[] answers() {\nint[] got = new int["
                + calls + "];\n" + code + "return got;\n}\n}\n");
        JavaCompiler compiler = ToolProvider.getSystemJavaCompiler();
        String classes = System.getProperty("java.class.path");
        int refused = compiler.run(null, null, null, "-cp", classes, "-d", OUT.toString(), file.toString());
        due.is("compiling it", refused, 0);
        if (refused != 0) {
            return new int[calls];
        }
        try (URLClassLoader loader = new URLClassLoader(new URL[] {OUT.toUri().toURL()})) {
            return (int[]) loader.loadClass(name).getMethod("answers").invoke(null);
        }
    }

    private static void eachCallOfTheFaceIsShown(List<Call> calls) {
        Set<String> shown = new TreeSet<>();
        calls.forEach(call -> shown.add(call.method));
        Set<String> face = new TreeSet<>();
        Arrays.stream(DegreeCores.class.getMethods())
                .filter(method -> method.getDeclaringClass() == DegreeCores.class)
                .forEach(method -> face.add(method.getName()));
        due.is("calls of the face", face.size(), 25);
        due.isTrue("the calls shown " + shown + " are those of the face", shown.equals(face));
    }

    private static void eachRefusalIsShown(List<Call> calls) {
        for (int refusal = -1; refusal >= -4; refusal--) {
            int one = refusal;
            due.isTrue("a call is shown that answers " + one, calls.stream().anyMatch(call -> call.answer == one));
        }
    }
}
