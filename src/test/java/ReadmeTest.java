import java.io.File;
import java.io.IOException;
import java.lang.reflect.Method;
import java.lang.reflect.Modifier;
import java.net.URL;
import java.net.URLClassLoader;
import java.nio.file.Files;
import java.nio.file.Path;
import java.util.ArrayList;
import java.util.Comparator;
import java.util.List;
import java.util.Set;
import java.util.TreeSet;
import java.util.regex.Matcher;
import java.util.regex.Pattern;
import java.util.stream.Stream;
import javax.tools.JavaCompiler;
import javax.tools.ToolProvider;

/** The examples of README.md, compiled and run as they are printed: each line answers what stands behind its //. */
public final class ReadmeTest {
    private static final String NAME = "ReadmeExamples";
    private static final String MAKING = "FrostReplies x = new FrostReplies();";
    private static final Pattern EXAMPLE =
        Pattern.compile("((?:x\\.(\\w+)|tell)\\(.*\\)); {2}// (NONE|-2|\\d+|true|false)(?:: \\S.*)?");

    private static final List<String> wrong = new ArrayList<>();
    private static final Set<String> shown = new TreeSet<>();
    private static final StringBuilder members = new StringBuilder();
    private static final StringBuilder statements = new StringBuilder();
    private static int examples;

    private ReadmeTest() {
    }

    public static void main(String[] args) throws Exception {
        gather(Files.readAllLines(Path.of("README.md")));
        needEveryMethodShown();
        if (wrong.isEmpty()) {
            runExamples();
        }
        for (String one : wrong) {
            System.out.println(one);
        }
        if (!wrong.isEmpty()) {
            System.exit(1);
        }
        System.out.println("ReadmeTest: " + examples + " examples answer as they are printed");
    }

    private static void gather(List<String> lines) {
        boolean inBlock = false;
        boolean inMembers = false;
        for (int i = 0; i < lines.size(); i++) {
            String line = lines.get(i);
            if (line.startsWith("```")) {
                inBlock = line.equals("```java");
                inMembers = inBlock && i + 1 < lines.size() && lines.get(i + 1).startsWith("static ");
            } else if (inMembers) {
                members.append(line).append('\n');
            } else if (inBlock) {
                takeExample(i + 1, line);
            }
        }
    }

    private static void takeExample(int number, String line) {
        Matcher m = EXAMPLE.matcher(line);
        if (m.matches()) {
            examples++;
            if (m.group(2) != null) {
                shown.add(m.group(2));
            }
            String answer = m.group(3).equals("NONE") ? "FrostReplies.NONE" : m.group(3);
            statements.append("due(" + number + ", " + m.group(1) + ", " + answer + ");\n");
        } else if (line.equals(MAKING)) {
            statements.append(line).append('\n');
        } else {
            wrong.add("README.md:" + number + ": no example with its answer: " + line);
        }
    }

    private static void needEveryMethodShown() {
        for (Method m : FrostReplies.class.getDeclaredMethods()) {
            if (Modifier.isPublic(m.getModifiers()) && !shown.contains(m.getName())) {
                wrong.add("README.md: no example with an answer shows " + m.getName() + "()");
            }
        }
    }

    private static String source() {
        return "import java.util.List;\n"
            + "public final class " + NAME + " {\n"
            + "static List<String> wrong;\n"
            + members
            + "static void due(int line, long got, long want) { if (got != want) {\n"
            + "wrong.add(\"README.md:\" + line + \": answered \" + got + \", printed is \" + want); } }\n"
            + "static void due(int line, boolean got, boolean want) { due(line, got ? 1 : 0, want ? 1 : 0); }\n"
            + "public static void run(List<String> complaints) {\n"
            + "wrong = complaints;\n"
            + statements
            + "}\n}\n";
    }

    private static void runExamples() throws Exception {
        Path folder = Files.createTempDirectory("readme");
        try {
            Path file = folder.resolve(NAME + ".java");
            Files.writeString(file, source());
            if (!compiles(folder, file)) {
                wrong.add("README.md: the examples do not compile");
                return;
            }
            try (URLClassLoader loader = new URLClassLoader(new URL[] {folder.toUri().toURL()})) {
                loader.loadClass(NAME).getMethod("run", List.class).invoke(null, wrong);
            }
        } finally {
            strike(folder);
        }
    }

    private static boolean compiles(Path folder, Path file) {
        JavaCompiler javac = ToolProvider.getSystemJavaCompiler();
        String known = System.getProperty("java.class.path");
        return javac != null && javac.run(null, null, null, "-cp", known, "-d", folder.toString(), file.toString()) == 0;
    }

    private static void strike(Path folder) throws IOException {
        try (Stream<Path> all = Files.walk(folder)) {
            all.sorted(Comparator.reverseOrder()).map(Path::toFile).forEach(File::delete);
        }
    }
}
