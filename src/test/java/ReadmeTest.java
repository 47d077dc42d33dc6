import java.io.IOException;
import java.lang.reflect.Modifier;
import java.net.URL;
import java.net.URLClassLoader;
import java.nio.file.Files;
import java.nio.file.Path;
import java.util.ArrayList;
import java.util.List;
import java.util.Set;
import java.util.TreeSet;
import java.util.regex.Matcher;
import java.util.regex.Pattern;
import javax.tools.ToolProvider;

/**
 * The calls that README.md shows compile and answer what it says of them: its java blocks are made one program, in their
 * order, in which each call with an answer behind it ('call;   // answer' or 'call;   // answer: why') is looked at.
 */
final class ReadmeTest {
    private static final String SHOWN = "ReadmeShown";
    private static final Pattern ANSWERED =
        Pattern.compile("\\s*(\\w[\\w.]*\\(.*\\));\\s*// (true|false|-?\\d+)(?:[:,].*)?");
    private static final Pattern CALL = Pattern.compile("\\s*(?:x\\.|feedText\\().*");
    private static final Pattern NAMED = Pattern.compile("\\bx\\.(\\w+)\\(");

    private final List<String> calls = new ArrayList<>();
    private final List<String> answers = new ArrayList<>();
    private final StringBuilder members = new StringBuilder();
    private final StringBuilder statements = new StringBuilder();
    private final Set<String> named = new TreeSet<>();

    public static void main(String[] args) throws Exception {
        ReadmeTest test = new ReadmeTest();
        test.take(Files.readAllLines(Path.of(System.getProperty("readme", "README.md"))));
        test.lookAtNames();
        Path made = Files.createTempDirectory("readme");
        try {
            test.lookAtAnswers(made);
        } finally {
            clear(made);
        }
        Check.end();
    }

    private void take(List<String> lines) {
        for (int i = 0; i < lines.size(); i++) {
            if (!lines.get(i).equals("```java")) continue;
            boolean isMember = i + 1 < lines.size() && lines.get(i + 1).startsWith("static ");
            for (i++; i < lines.size() && !lines.get(i).equals("```"); i++) {
                if (isMember) members.append(lines.get(i)).append('\n');
                else takeStatement(i + 1, lines.get(i));
            }
        }
    }

    private void takeStatement(int line, String text) {
        Matcher answered = ANSWERED.matcher(text);
        if (!answered.matches()) {
            if (CALL.matcher(text).matches()) Check.fail("README.md, line " + line + ": no answer is told: " + text);
            statements.append(text).append('\n');
            return;
        }
        String call = answered.group(1);
        calls.add("README.md, line " + line + ": " + call);
        answers.add(answered.group(2));
        statements.append("answers.add(String.valueOf(").append(call).append("));\n");
        Matcher name = NAMED.matcher(call);
        while (name.find()) named.add(name.group(1));
    }

    /** The use of the class is all of its face. */
    private void lookAtNames() {
        for (var method : RingPurses.class.getDeclaredMethods()) {
            boolean isShown = named.contains(method.getName());
            if (Modifier.isPublic(method.getModifiers())) Check.due("README.md shows " + method.getName(), isShown, true);
        }
    }

    private void lookAtAnswers(Path made) throws Exception {
        List<?> got = run(made);
        Check.due("answers of the calls that README.md shows", got.size(), calls.size());
        for (int i = 0; i < got.size() && i < calls.size(); i++) {
            Check.due(calls.get(i), String.valueOf(got.get(i)), answers.get(i));
        }
    }

    private List<?> run(Path made) throws Exception {
        Path source = made.resolve(SHOWN + ".java");
        Files.writeString(source, "public final class " + SHOWN + " {\n"
            + "public static java.util.List<String> shown() {\n"
            + "java.util.List<String> answers = new java.util.ArrayList<>();\n"
            + statements + "return answers;\n}\n" + members + "}\n");
        int wrong = ToolProvider.getSystemJavaCompiler().run(null, null, null, "--release", "17", "-cp",
            System.getProperty("java.class.path"), "-d", made.toString(), source.toString());
        Check.due("javac of what README.md shows", wrong, 0);
        if (wrong != 0) return List.of();
        try (URLClassLoader loader = new URLClassLoader(new URL[] {made.toUri().toURL()}, RingPurses.class.getClassLoader())) {
            return (List<?>) loader.loadClass(SHOWN).getMethod("shown").invoke(null);
        }
    }

    private static void clear(Path made) throws IOException {
        Files.deleteIfExists(made.resolve(SHOWN + ".java"));
        Files.deleteIfExists(made.resolve(SHOWN + ".class"));
        Files.deleteIfExists(made);
    }
}
