import java.io.ByteArrayOutputStream;
import java.io.IOException;
import java.io.PrintStream;
import java.lang.reflect.Method;
import java.lang.reflect.Modifier;
import java.net.URL;
import java.net.URLClassLoader;
import java.nio.charset.StandardCharsets;
import java.nio.file.Files;
import java.nio.file.Path;
import java.util.ArrayList;
import java.util.List;
import java.util.Set;
import java.util.TreeSet;
import java.util.regex.Matcher;
import java.util.regex.Pattern;
import javax.tools.ToolProvider;

/** README.md tells the truth: its example prints what it says, its tables have every call with as many arguments. */
public final class ReadmeTest {
    private static int wrong = 0;

    private static void due(String what, Object got, Object want) {
        if (!got.equals(want)) {
            wrong++;
            System.out.println(what + ":\n" + got + "\ndue is\n" + want);
        }
    }

    /** What stands between the fences of the first block of this kind. */
    private static String block(String readme, String kind) {
        Matcher m = Pattern.compile("```" + kind + "\n(.*?)```", Pattern.DOTALL).matcher(readme);
        return m.find() ? m.group(1) : "";
    }

    private static String printedBy(String example) throws Exception {
        Path folder = Files.createTempDirectory("readme");
        Path source = folder.resolve("Example.java");
        Files.writeString(source, example);
        int fault = ToolProvider.getSystemJavaCompiler().run(null, null, null, "-cp",
                System.getProperty("java.class.path"), "-d", folder.toString(), source.toString());
        String printed = fault == 0 ? outputOf(folder) : "it does not compile";
        remove(folder);
        return printed;
    }

    private static String outputOf(Path folder) throws Exception {
        PrintStream out = System.out;
        ByteArrayOutputStream bytes = new ByteArrayOutputStream();
        try (URLClassLoader loader = new URLClassLoader(new URL[] {folder.toUri().toURL()})) {
            Method main = loader.loadClass("Example").getMethod("main", String[].class);
            System.setOut(new PrintStream(bytes, true, StandardCharsets.UTF_8));
            main.invoke(null, (Object) new String[0]);
        } finally {
            System.setOut(out);
        }
        return bytes.toString(StandardCharsets.UTF_8).replace(System.lineSeparator(), "\n");
    }

    private static void remove(Path folder) throws IOException {
        List<Path> files = new ArrayList<>();
        try (var listed = Files.list(folder)) {
            listed.forEach(files::add);
        }
        for (Path file : files) {
            Files.delete(file);
        }
        Files.delete(folder);
    }

    private static Set<String> callsOfTheTables(String readme) {
        Set<String> calls = new TreeSet<>();
        Matcher m = Pattern.compile("^\\| `(\\w+)\\(([^)]*)\\)` \\|", Pattern.MULTILINE).matcher(readme);
        while (m.find()) {
            String arguments = m.group(2).trim();
            calls.add(m.group(1) + (arguments.isEmpty() ? 0 : arguments.split(",").length));
        }
        return calls;
    }

    private static Set<String> callsOfTheFace() {
        Set<String> calls = new TreeSet<>();
        for (Method m : HorizonSeam.class.getDeclaredMethods()) {
            if (Modifier.isPublic(m.getModifiers())) {
                calls.add(m.getName() + m.getParameterCount());
            }
        }
        return calls;
    }

    public static void main(String[] args) throws Exception {
        String readme = Files.readString(Path.of("README.md"));
        due("the example", printedBy(block(readme, "java")), block(readme, "text"));
        due("calls of the tables", callsOfTheTables(readme), callsOfTheFace());
        for (String test : new String[] {"PromisesTest", "TermsBoundsTest", "DayBoundsTest", "AnswersBoundsTest",
            "CallsBoundsTest", "EdgesTest", "ModelTest", "FaceTest", "LanguageTest", "ReadmeTest"}) {
            due(test + " is told of", readme.contains("`" + test + "`"), true);
            due(test + " is there", Files.exists(Path.of("src/test/java", test + ".java")), true);
        }
        System.out.println(wrong == 0 ? "the readme tells the truth" : wrong + " things are not as the readme says");
        if (wrong != 0) {
            System.exit(1);
        }
    }
}
