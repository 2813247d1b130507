import java.io.File;
import java.lang.reflect.Method;
import java.lang.reflect.Modifier;
import java.net.URL;
import java.net.URLClassLoader;
import java.nio.file.Files;
import java.nio.file.Path;
import java.util.ArrayList;
import java.util.List;
import java.util.TreeSet;
import java.util.regex.Matcher;
import java.util.regex.Pattern;
import javax.tools.JavaCompiler;
import javax.tools.ToolProvider;

/** What README.md says of the class's use is so, and its tables name the tests that are there. */
public final class ReadmeTest {
    private static final String MAKES = "FormulaCode x = new FormulaCode();";
    private static final Pattern LINE =
        Pattern.compile("x\\.(\\w+)\\(.*\\);\\s+// (true|false|-?\\d+|nothing|throws \\w+)(: .*)?");

    public static void main(String[] args) throws Exception {
        String readme = Files.readString(Path.of("README.md"));
        List<String> lines = useLines(readme);
        eachLineIsACall(lines);
        everyMethodIsShown(lines);
        answersAreSo(lines);
        tablesNameTheTests(readme);
        Check.finish();
    }

    private static List<String> useLines(String readme) {
        int from = readme.indexOf("```java\n");
        int to = readme.indexOf("\n```\n", from);
        Check.same("README has an example", from >= 0 && to > from, true);
        return from >= 0 && to > from ? readme.substring(from + 8, to).lines().toList() : List.of();
    }

    private static void eachLineIsACall(List<String> lines) {
        Check.same("the example's first line", lines.isEmpty() ? "" : lines.get(0), MAKES);
        for (int k = 1; k < lines.size(); k++) {
            Check.same("a call and its answer: " + lines.get(k), LINE.matcher(lines.get(k)).matches(), true);
        }
    }

    private static void everyMethodIsShown(List<String> lines) {
        TreeSet<String> shown = new TreeSet<>();
        for (String line : lines) {
            Matcher m = LINE.matcher(line);
            if (m.matches()) {
                shown.add(m.group(1));
            }
        }
        TreeSet<String> due = new TreeSet<>();
        for (Method m : FormulaCode.class.getDeclaredMethods()) {
            if (Modifier.isPublic(m.getModifiers())) {
                due.add(m.getName());
            }
        }
        Check.same("the methods in the example", shown, due);
    }

    /** Compiles the example as it stands, so that it is Java as well. */
    private static void answersAreSo(List<String> lines) throws Exception {
        List<String> calls = new ArrayList<>();
        List<String> due = new ArrayList<>();
        for (String line : lines) {
            Matcher m = LINE.matcher(line);
            if (m.matches()) {
                calls.add(line.substring(0, line.indexOf("//")).strip());
                due.add(m.group(2));
            }
        }
        List<?> got = run(exampleClass(calls, due));
        Check.same("how many answers", got.size(), calls.size());
        for (int k = 0; k < calls.size() && k < got.size(); k++) {
            Check.same("README: " + calls.get(k), got.get(k), due.get(k));
        }
    }

    private static String exampleClass(List<String> calls, List<String> due) {
        StringBuilder source = new StringBuilder("public final class ReadmeUse {\n");
        source.append("public static java.util.List<String> answers() {\n");
        source.append("java.util.List<String> got = new java.util.ArrayList<>();\n").append(MAKES).append('\n');
        for (int k = 0; k < calls.size(); k++) {
            String call = calls.get(k);
            String bare = call.substring(0, call.length() - 1);
            boolean isVoid = due.get(k).equals("nothing");
            source.append("try { ");
            source.append(isVoid ? call + " got.add(\"nothing\");" : "got.add(String.valueOf(" + bare + "));");
            source.append(" } catch (RuntimeException e) { ");
            source.append("got.add(\"throws \" + e.getClass().getSimpleName()); }\n");
        }
        return source.append("return got;\n}\n}\n").toString();
    }

    private static List<?> run(String source) throws Exception {
        JavaCompiler compiler = ToolProvider.getSystemJavaCompiler();
        Check.same("a JDK runs this", compiler != null, true);
        if (compiler == null) {
            return List.of();
        }
        Path folder = Files.createTempDirectory("readme");
        Path file = folder.resolve("ReadmeUse.java");
        Files.writeString(file, source);
        int answer = compiler.run(null, null, null, "-cp", System.getProperty("java.class.path"),
            "-d", folder.toString(), file.toString());
        Check.same("javac of the example", answer, 0);
        List<?> got = List.of();
        if (answer == 0) {
            URL[] places = {folder.toUri().toURL()};
            try (URLClassLoader loader = new URLClassLoader(places, ReadmeTest.class.getClassLoader())) {
                got = (List<?>) loader.loadClass("ReadmeUse").getMethod("answers").invoke(null);
            }
        }
        for (File left : folder.toFile().listFiles()) {
            Files.delete(left.toPath());
        }
        Files.delete(folder);
        return got;
    }

    private static void tablesNameTheTests(String readme) {
        TreeSet<String> named = new TreeSet<>();
        for (String line : readme.lines().toList()) {
            String[] cells = line.split("\\|");
            Matcher m = Pattern.compile("\\w+Test\\b").matcher(line.startsWith("|") && cells.length > 1 ? cells[1] : "");
            while (m.find()) {
                named.add(m.group());
            }
        }
        TreeSet<String> there = new TreeSet<>();
        for (String file : new File("src/test/java").list()) {
            if (file.endsWith("Test.java")) {
                there.add(file.substring(0, file.length() - 5));
            }
        }
        Check.same("the tests in README's tables", named, there);
    }
}
