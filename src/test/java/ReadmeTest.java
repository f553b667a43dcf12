import java.io.ByteArrayOutputStream;
import java.io.IOException;
import java.io.PrintStream;
import java.lang.reflect.Method;
import java.lang.reflect.Modifier;
import java.net.URL;
import java.net.URLClassLoader;
import java.nio.file.Files;
import java.nio.file.Path;
import java.util.ArrayList;
import java.util.List;
import java.util.regex.Matcher;
import java.util.regex.Pattern;
import javax.tools.JavaCompiler;
import javax.tools.ToolProvider;

/** README.md's example prints what it says, and each call has its row there. */
public final class ReadmeTest {
    private static final Pattern EXAMPLE = Pattern.compile("```java\n(.*?)```", Pattern.DOTALL);
    private static final Pattern PRINTS = Pattern.compile("println\\(.*// prints ([^:\n]*)");
    private static final Check CHECK = new Check("ReadmeTest");

    public static void main(String[] args) throws IOException, ReflectiveOperationException {
        String readme = Files.readString(Path.of("README.md"));
        hasEachCall(readme);
        Matcher example = EXAMPLE.matcher(readme);
        CHECK.due("there is an example", example.find(), true);
        printsAsItSays(example.group(1));
        CHECK.end();
    }

    private static void hasEachCall(String readme) {
        for (Method m : PropertyStore.class.getDeclaredMethods()) {
            if (Modifier.isPublic(m.getModifiers())) {
                boolean found = Pattern.compile("^\\| `" + m.getName() + "\\(", Pattern.MULTILINE).matcher(readme).find();
                CHECK.due("a row for " + m.getName(), found, true);
            }
        }
    }

    private static void printsAsItSays(String example) throws IOException, ReflectiveOperationException {
        List<String> due = new ArrayList<>();
        Matcher prints = PRINTS.matcher(example);
        while (prints.find()) {
            due.add(prints.group(1).trim());
        }
        CHECK.due("lines that say what they print", due.size(), example.split("println").length - 1);
        CHECK.due("what the example prints", printed(example), String.join("\n", due));
    }

    private static String printed(String example) throws IOException, ReflectiveOperationException {
        Path folder = Files.createTempDirectory("readme");
        Path source = Files.writeString(folder.resolve("Example.java"), example);
        JavaCompiler compiler = ToolProvider.getSystemJavaCompiler();
        int wrong = compiler.run(null, null, null, "-cp", System.getProperty("java.class.path"),
                "-d", folder.toString(), source.toString());
        CHECK.due("javac of the example", wrong, 0);
        String printed = wrong == 0 ? run(folder) : "";
        Files.deleteIfExists(folder.resolve("Example.class"));
        Files.delete(source);
        Files.delete(folder);
        return printed;
    }

    private static String run(Path folder) throws IOException, ReflectiveOperationException {
        PrintStream out = System.out;
        ByteArrayOutputStream text = new ByteArrayOutputStream();
        try (URLClassLoader loader = new URLClassLoader(new URL[] {folder.toUri().toURL()})) {
            System.setOut(new PrintStream(text, true));
            loader.loadClass("Example").getMethod("main", String[].class).invoke(null, (Object) new String[0]);
        } finally {
            System.setOut(out);
        }
        return text.toString().trim().replace(System.lineSeparator(), "\n");
    }
}
