import java.io.IOException;
import java.lang.reflect.Constructor;
import java.lang.reflect.Field;
import java.lang.reflect.Method;
import java.lang.reflect.Modifier;
import java.nio.file.Files;
import java.nio.file.Path;
import java.util.Arrays;
import java.util.HashSet;
import java.util.Set;
import java.util.TreeSet;
import java.util.regex.Matcher;
import java.util.regex.Pattern;

/** The public face, and those rules of LANGUAGE.md that can be seen without reading the code. */
public final class FaceTest {
    private static final Due due = new Due();
    private static final String SOURCE = "src/main/java/DegreeCores.java";
    private static final String[] FACE = {
        "node()", "join(int,int,boolean)", "joined(int,int)", "clear()", "degree(int)", "core(int)",
        "coreSet(int)", "peeled(int)", "layer(int)", "triangles()", "triangle(int,int)",
        "support(int,int)", "truss(int,int)", "cluster(int,int)", "closed(int)", "densest()",
        "density(int)", "firm(int,int)", "classOf(int,int)", "likeness(int)", "rich(int,int)",
        "want(int)", "unwant()", "graphic()", "make()",
    };
    private static final String[] FORBIDDEN = {
        "\\bimport\\b", "\\bpackage\\b", "\\bthrow\\b", "\\bthrows\\b", "\\btry\\b", "\\bcatch\\b",
        "\\bsynchronized\\b", "\\bassert\\b", "->", "::", "\\w+Exact\\b", "\\bprotected\\b",
        "\\bRandom\\b", "\\bnanoTime\\b", "\\bcurrentTimeMillis\\b", "\\bstatic\\s*\\{",
    };

    /** What the interface says ahead of which calls. */
    private static final String[][] SECTIONS = {
        {"// ---- cores", "degree", "core", "coreSet", "peeled", "layer"},
        {"// ---- triangles", "triangles", "triangle", "support", "truss", "cluster", "closed"},
        {"// ---- densest, firm", "densest", "density", "firm", "classOf"},
        {"// ---- likeness, the rich", "likeness", "rich"},
        {"// ---- rows of degrees", "want", "unwant", "graphic", "make"},
    };
    private static final Set<String> LIBRARY = Set.of(
            "Integer.bitCount", "Math.abs", "Math.max", "Math.min", "System.arraycopy");
    private static final int MOST_LINES = 60;

    private FaceTest() {
    }

    public static void main(String[] args) throws IOException {
        face();
        fields();
        names();
        String text = Files.readString(Path.of(SOURCE));
        sections(text);
        source(text.replaceAll("(?s)/\\*.*?\\*/", " ").replaceAll("//[^\\n]*", " "));
        library(text);
        lengths(text);
        due.end();
    }

    private static String told(Method method) {
        StringBuilder text = new StringBuilder(method.getName()).append('(');
        for (Class<?> type : method.getParameterTypes()) {
            text.append(text.charAt(text.length() - 1) == '(' ? "" : ",").append(type.getName());
        }
        return text.append(')').toString();
    }

    private static void face() {
        due.topic("face");
        due.isTrue("the class is public and final",
                Modifier.isPublic(DegreeCores.class.getModifiers()) && Modifier.isFinal(DegreeCores.class.getModifiers()));
        Constructor<?>[] constructors = DegreeCores.class.getDeclaredConstructors();
        due.is("constructors", constructors.length, 1);
        due.is("the constructor's parameters", constructors[0].getParameterCount(), 0);
        due.isTrue("the constructor is public", Modifier.isPublic(constructors[0].getModifiers()));
        Set<String> open = new TreeSet<>();
        for (Method method : DegreeCores.class.getDeclaredMethods()) {
            if (!Modifier.isPrivate(method.getModifiers())) {
                open.add(told(method));
                due.isTrue(told(method) + " answers an int", method.getReturnType() == int.class);
                due.isTrue(told(method) + " is public and not static",
                        Modifier.isPublic(method.getModifiers()) && !Modifier.isStatic(method.getModifiers()));
            }
        }
        due.isTrue("open methods " + open, open.equals(new HashSet<>(Arrays.asList(FACE))));
    }

    private static void fields() {
        due.topic("fields");
        int beside = 0;
        for (Field field : DegreeCores.class.getDeclaredFields()) {
            due.isTrue(field.getName() + " is private", Modifier.isPrivate(field.getModifiers()));
            if (Modifier.isStatic(field.getModifiers())) {
                due.isTrue(field.getName() + " is final", Modifier.isFinal(field.getModifiers()));
            } else {
                beside++;
            }
        }
        due.isTrue("fields beside constants: " + beside, beside <= 20);
    }

    private static void names() {
        due.topic("names");
        Set<String> open = new HashSet<>();
        for (String call : FACE) {
            open.add(call.substring(0, call.indexOf('(')));
        }
        for (Method method : DegreeCores.class.getDeclaredMethods()) {
            if (Modifier.isPrivate(method.getModifiers())) {
                due.isTrue("private " + method.getName() + " has a name of its own", !open.contains(method.getName()));
            }
            due.isTrue(method.getName() + " takes seven at most", method.getParameterCount() <= 7);
        }
    }

    private static void sections(String text) {
        due.topic("sections");
        for (String[] section : SECTIONS) {
            int start = text.indexOf(section[0] + "\n");
            due.isTrue(section[0] + " is said", start >= 0);
            int next = text.indexOf("// ----", start + 1);
            for (int i = 1; i < section.length; i++) {
                int call = text.indexOf("public int " + section[i] + "(");
                due.isTrue(section[0] + " is said ahead of " + section[i], call > start && call < next);
            }
        }
    }

    private static void library(String text) {
        due.topic("library");
        Matcher used = Pattern.compile("\\b([A-Z]\\w*\\.\\w+)\\(").matcher(text);
        int count = 0;
        while (used.find()) {
            due.isTrue(used.group(1) + " is of those that LANGUAGE.md lists", LIBRARY.contains(used.group(1)));
            count++;
        }
        due.isTrue("some are used", count > 0);
    }

    /** A method's last line is the first that is a brace four places in. */
    private static void lengths(String text) {
        due.topic("lengths");
        String[] lines = text.split("\n");
        int methods = 0;
        int start = -1;
        for (int i = 0; i < lines.length; i++) {
            if (lines[i].matches("    (public|private) .*\\) \\{")) {
                start = i;
                methods++;
            } else if (lines[i].equals("    }")) {
                due.isTrue(lines[start].trim() + " is short", i - start < MOST_LINES);
            }
        }
        due.isTrue("all methods are looked at", methods == DegreeCores.class.getDeclaredMethods().length + 1);
    }

    /** The code without its comments. */
    private static void source(String code) {
        due.topic("source");
        for (String word : FORBIDDEN) {
            due.isTrue("no " + word, !Pattern.compile(word).matcher(code).find());
        }
        // Arrays are made in the constructor alone: calls must not fill the room of a run.
        int start = code.indexOf("public DegreeCores()");
        int end = code.indexOf('}', start);
        due.isTrue("the constructor is found", start >= 0 && end > start);
        String calls = code.substring(0, Math.max(start, 0)) + code.substring(Math.max(end, 0));
        due.isTrue("nothing is made outside the constructor", !Pattern.compile("\\bnew\\b").matcher(calls).find());
    }
}
