import java.io.File;
import java.io.IOException;
import java.lang.reflect.Method;
import java.lang.reflect.Modifier;
import java.net.URL;
import java.net.URLClassLoader;
import java.nio.file.Files;
import java.nio.file.Path;
import java.util.ArrayList;
import java.util.List;
import java.util.Set;
import java.util.TreeSet;
import java.util.regex.Matcher;
import java.util.regex.Pattern;
import javax.tools.JavaCompiler;
import javax.tools.ToolProvider;

/** README.md against the class and the document: what it shows and tells of the calls has to be so. */
public final class ReadmeTest {
    private static final Check check = new Check();
    private static final Pattern SHOWN =
            Pattern.compile("(?:int (\\w+) = )?(x\\.(\\w+)\\(.*\\));\\s*// (-?\\w+)(?::.*)?");
    private static final Pattern ROW = Pattern.compile("\\| `(\\w+)\\((.*?)\\)` \\| (.+) \\| (.+) \\|");
    private static final Pattern CONSTANT =
            Pattern.compile("\\b(UNKNOWN|BAD_VALUE|FULL|NOT_POSSIBLE|NONE)\\b");

    public static void main(String[] args) throws Exception {
        List<String> readme = Files.readAllLines(Path.of("README.md"));
        example(readme);
        constants(readme);
        table(readme);
        check.end();
    }

    private static List<String> blockOfJava(List<String> readme) {
        int begin = readme.indexOf("```java") + 1;
        return readme.subList(begin, begin + readme.subList(begin, readme.size()).indexOf("```"));
    }

    private static void example(List<String> readme) throws Exception {
        check.test("README: the answers of the example");
        StringBuilder program = new StringBuilder("public final class Example {\n"
                + "static void due(StringBuilder wrong, String line, int want, int got) {\n"
                + "if (want != got) wrong.append(line).append(\" answered \").append(got).append('\\n');\n}\n"
                + "public static String run() {\nStringBuilder wrong = new StringBuilder();\n");
        Set<String> called = new TreeSet<>();
        for (String line : blockOfJava(readme)) {
            Matcher shown = SHOWN.matcher(line);
            program.append(shown.matches() ? checkOf(shown, called) : line).append('\n');
        }
        program.append("return wrong.toString();\n}\n}\n");
        check.same("calls without an answer", "[type]\n", callsWithoutAnswer(readme) + "\n");
        check.yes("each act is shown but for mix: " + called, called.containsAll(Set.of("make", "remove",
                "ask", "root", "cut", "join", "set", "perform", "restore", "undo", "keep", "stopped")));
        check.same("wrong in the example", "", runOf(program.toString()));
    }

    private static String checkOf(Matcher shown, Set<String> called) {
        called.add(shown.group(3));
        boolean isNumber = shown.group(4).matches("-?\\d+");
        String want = isNumber ? shown.group(4) : "RootedDeltas." + shown.group(4);
        String line = shown.group(2).replace("\"", "").replace("\\", "");
        String due = "due(wrong, \"" + line + "\", " + want + ", ";
        return shown.group(1) == null
                ? due + shown.group(2) + ");"
                : "int " + shown.group(1) + " = " + shown.group(2) + ";\n" + due + shown.group(1) + ");";
    }

    /** The text is typed in a loop: all that needs no answer. */
    private static List<String> callsWithoutAnswer(List<String> readme) {
        List<String> found = new ArrayList<>();
        for (String line : blockOfJava(readme)) {
            Matcher call = Pattern.compile("\\bx\\.(\\w+)\\(").matcher(line);
            if (!SHOWN.matcher(line).matches() && call.find()) {
                found.add(call.group(1));
            }
        }
        return found;
    }

    private static String runOf(String program) throws Exception {
        Path folder = Files.createTempDirectory("readme");
        try {
            Path source = Files.writeString(folder.resolve("Example.java"), program);
            JavaCompiler compiler = ToolProvider.getSystemJavaCompiler();
            int ended = compiler.run(null, null, null, "-d", folder.toString(),
                    "-cp", System.getProperty("java.class.path"), source.toString());
            if (ended != 0) {
                return "it does not compile";
            }
            URL[] places = {folder.toUri().toURL()};
            try (URLClassLoader loader = new URLClassLoader(places, ReadmeTest.class.getClassLoader())) {
                return (String) loader.loadClass("Example").getMethod("run").invoke(null);
            }
        } finally {
            for (File file : folder.toFile().listFiles()) {
                Files.delete(file.toPath());
            }
            Files.delete(folder);
        }
    }

    private static void constants(List<String> readme) throws ReflectiveOperationException {
        check.test("README: the constants");
        for (String name : List.of("UNKNOWN", "BAD_VALUE", "FULL", "NOT_POSSIBLE", "NONE")) {
            String begin = "- `" + name + "` (" + RootedDeltas.class.getField(name).getInt(null) + "): ";
            check.yes(begin, readme.stream().anyMatch(line -> line.startsWith(begin)));
        }
    }

    private static void table(List<String> readme) throws IOException {
        check.test("README: each call has its row, with the document's errors in their order");
        String document = Files.readString(Path.of("../shared/DOC.md"));
        List<String> rows = new ArrayList<>();
        for (String line : readme) {
            Matcher row = ROW.matcher(line);
            if (row.matches()) {
                rows.add(row.group(1) + "/" + countOf(row.group(2)));
                errors(row.group(1), row.group(4), promiseOf(document, row.group(1)));
            }
        }
        List<String> face = new ArrayList<>();
        for (Method method : RootedDeltas.class.getDeclaredMethods()) {
            if (Modifier.isPublic(method.getModifiers())) {
                face.add(method.getName() + "/" + method.getParameterCount());
            }
        }
        face.sort(null);
        rows.sort(null);
        check.same("calls in the table", face + "\n", rows + "\n");
    }

    private static int countOf(String arguments) {
        return arguments.isEmpty() ? 0 : arguments.split(",").length;
    }

    private static String promiseOf(String document, String call) {
        Matcher promise = Pattern.compile("(?s)## Promise \\d+: " + call + "\n(.*?)(?=\n## |\\z)")
                .matcher(document);
        return promise.find() ? promise.group(1) : "";
    }

    /** The errors of the line "Returns ..", and no constant of which the promise does not speak. */
    private static void errors(String call, String told, String promise) {
        List<String> inRow = constantsOf(told);
        List<String> inPromise = constantsOf(promise);
        List<String> inReturns = constantsOf(promise.substring(Math.max(0, promise.lastIndexOf("\nReturns "))));
        List<String> rest = new ArrayList<>(inRow);
        rest.retainAll(inReturns);
        check.same(call + "()'s errors", inReturns + "\n", rest + "\n");
        check.yes(call + "()'s constants " + inRow, inPromise.containsAll(inRow));
        check.yes(call + "() that always can", inRow.isEmpty() == told.equals("it always can"));
        check.yes(call + "() has a promise", !promise.isEmpty());
    }

    private static List<String> constantsOf(String text) {
        List<String> found = new ArrayList<>();
        Matcher constant = CONSTANT.matcher(text);
        while (constant.find()) {
            found.add(constant.group());
        }
        return found;
    }
}
