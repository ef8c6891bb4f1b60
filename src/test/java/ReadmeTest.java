import java.io.ByteArrayOutputStream;
import java.io.IOException;
import java.io.PrintStream;
import java.lang.reflect.Method;
import java.lang.reflect.Modifier;
import java.net.URL;
import java.net.URLClassLoader;
import java.nio.charset.StandardCharsets;
import java.nio.file.Files;
import java.nio.file.Path;
import java.util.TreeSet;
import java.util.regex.Matcher;
import java.util.regex.Pattern;
import java.util.spi.ToolProvider;

/** That README.md is right: its example is compiled and run, its table has every call of the face, each once. */
public final class ReadmeTest {
    public static void main(String[] args) throws Exception {
        String page = Files.readString(Path.of("README.md"), StandardCharsets.UTF_8);
        example(block(page, "java"), block(page, "text"));
        table(page);
        Check.finish();
    }

    private static String block(String page, String kind) {
        Matcher matcher = Pattern.compile("(?s)```" + kind + "\n(.*?)```").matcher(page);
        boolean found = matcher.find();
        Check.due("README.md has an example, " + kind, found, true);
        return found ? matcher.group(1) : "";
    }

    private static void example(String source, String prints) throws Exception {
        ToolProvider javac = ToolProvider.findFirst("javac").orElse(null);
        if (javac == null) {
            System.out.println("no javac inside this java: the example isn't run");
            return;
        }
        Path folder = Files.createTempDirectory("readme");
        try {
            Path file = Files.writeString(folder.resolve("Example.java"), source);
            int ended = javac.run(System.out, System.out, "-Xlint:all", "-Werror", "-cp", System.getProperty("java.class.path"),
                "-d", folder.toString(), file.toString());
            Check.due("the example compiles", ended, 0);
            if (ended == 0) {
                String printed = run(folder);
                System.out.print(printed.equals(prints) ? "" : "the example prints\n" + printed);
                Check.due("the example prints what README.md says", printed.equals(prints), true);
            }
        } finally {
            remove(folder);
        }
    }

    private static String run(Path folder) throws Exception {
        PrintStream before = System.out;
        ByteArrayOutputStream bytes = new ByteArrayOutputStream();
        try (URLClassLoader loader = new URLClassLoader(new URL[] {folder.toUri().toURL()})) {
            System.setOut(new PrintStream(bytes, true, StandardCharsets.UTF_8));
            loader.loadClass("Example").getMethod("main", String[].class).invoke(null, (Object) new String[0]);
        } finally {
            System.setOut(before);
        }
        return bytes.toString(StandardCharsets.UTF_8).replace(System.lineSeparator(), "\n");
    }

    private static void remove(Path folder) throws IOException {
        try (var files = Files.list(folder)) {
            for (Path file : files.toList()) {
                Files.delete(file);
            }
        }
        Files.delete(folder);
    }

    private static void table(String page) {
        TreeSet<String> face = new TreeSet<>();
        for (Method method : MistakesLent.class.getDeclaredMethods()) {
            if (Modifier.isPublic(method.getModifiers())) {
                face.add(method.getName());
            }
        }
        TreeSet<String> listed = new TreeSet<>();
        Matcher rows = Pattern.compile("(?m)^\\| .*`.*$").matcher(page);
        while (rows.find()) {
            Matcher names = Pattern.compile("`(\\w+)`").matcher(rows.group());
            while (names.find()) {
                Check.due("listed once: " + names.group(1), listed.add(names.group(1)), true);
            }
        }
        Check.due("all calls are listed: " + listed, listed.equals(face), true);
    }
}
