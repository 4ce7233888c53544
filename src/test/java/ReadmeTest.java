import java.lang.reflect.Method;
import java.lang.reflect.Modifier;
import java.net.URL;
import java.net.URLClassLoader;
import java.nio.file.Files;
import java.nio.file.Path;
import java.util.ArrayList;
import java.util.Comparator;
import java.util.List;
import java.util.regex.Matcher;
import java.util.regex.Pattern;
import java.util.stream.Stream;
import javax.tools.JavaCompiler;
import javax.tools.ToolProvider;

/** Compiles and runs the Java of README.md as it stands there: each call must answer as it says. */
public final class ReadmeTest {
    private static final Pattern BLOCK = Pattern.compile("(?s)```java\n(.*?)```");
    private static final Pattern CALL = Pattern.compile("((?:x\\.|tell\\().*?\\));\\s*(.*)");
    private static final Pattern ANSWER = Pattern.compile("// (-?\\d+|true|false|NONE)(?::.*)?");

    private static final Due DUE = new Due("ReadmeTest");

    private final List<String> calls = new ArrayList<>();
    private final List<String> answers = new ArrayList<>();

    public static void main(String[] args) throws Exception {
        String readme = Files.readString(Path.of("README.md"));
        usesAll(readme);
        new ReadmeTest().run(readme);
        DUE.finish();
    }

    private static void usesAll(String readme) {
        for (Method method : OvenNames.class.getDeclaredMethods()) {
            if (Modifier.isPublic(method.getModifiers())) {
                DUE.yes(method.getName() + " is used", readme.contains("x." + method.getName() + "("));
            }
        }
        DUE.yes("how the tests are run", readme.contains("    .ci/run\n"));
    }

    private void run(String readme) throws Exception {
        List<?> got = answersOf(programOf(readme));
        DUE.yes("there are calls", !calls.isEmpty());
        DUE.is("answers", got.size(), calls.size());
        for (int i = 0; i < Math.min(got.size(), calls.size()); i++) {
            String want = answers.get(i).equals("NONE") ? "-1" : answers.get(i);
            DUE.yes(calls.get(i) + " answers " + got.get(i) + ", README.md says " + want,
                    String.valueOf(got.get(i)).equals(want));
        }
    }

    /** A block that begins with static is a method, the others are one run of calls. */
    private String programOf(String readme) {
        StringBuilder methods = new StringBuilder();
        StringBuilder lines = new StringBuilder();
        Matcher block = BLOCK.matcher(readme);
        while (block.find()) {
            if (block.group(1).startsWith("static ")) {
                methods.append(block.group(1));
            } else {
                for (String line : block.group(1).split("\n")) {
                    lines.append(lineOf(line)).append("\n");
                }
            }
        }
        return "public final class ReadmeRun {\n" + methods + "public static java.util.List<Object> answers() {\n"
                + "java.util.List<Object> answers = new java.util.ArrayList<>();\n" + lines + "return answers;\n}\n}\n";
    }

    private String lineOf(String line) {
        Matcher call = CALL.matcher(line);
        if (!call.matches()) {
            return line;
        }
        Matcher answer = ANSWER.matcher(call.group(2));
        DUE.yes(line + " tells its answer", answer.matches());
        calls.add(call.group(1));
        answers.add(answer.matches() ? answer.group(1) : "");
        return "answers.add(" + call.group(1) + ");";
    }

    private static List<?> answersOf(String program) throws Exception {
        Path folder = Files.createTempDirectory("readme");
        try {
            Path source = folder.resolve("ReadmeRun.java");
            Files.writeString(source, program);
            JavaCompiler compiler = ToolProvider.getSystemJavaCompiler();
            int failed = compiler.run(null, null, null, "-cp", System.getProperty("java.class.path"), source.toString());
            DUE.is("README.md can be compiled", failed, 0);
            if (failed != 0) {
                return List.of();
            }
            try (URLClassLoader loader = new URLClassLoader(new URL[] {folder.toUri().toURL()})) {
                return (List<?>) loader.loadClass("ReadmeRun").getMethod("answers").invoke(null);
            }
        } finally {
            delete(folder);
        }
    }

    private static void delete(Path folder) throws Exception {
        try (Stream<Path> all = Files.walk(folder)) {
            for (Path each : all.sorted(Comparator.reverseOrder()).toList()) {
                Files.delete(each);
            }
        }
    }
}
