import java.io.IOException;
import java.lang.reflect.Method;
import java.lang.reflect.Modifier;
import java.net.URL;
import java.net.URLClassLoader;
import java.nio.file.Files;
import java.nio.file.Path;
import java.util.Set;
import java.util.TreeSet;
import java.util.regex.Matcher;
import java.util.regex.Pattern;
import java.util.stream.Stream;
import javax.tools.ToolProvider;

/** README.md tells the class as it is: its code compiles, each call answers what is told, and no call is left out. */
public final class ReadmeTest {
    private static final Path README = Path.of("README.md");
    private static final Pattern BLOCK = Pattern.compile("(?s)```java\n(.*?)```");
    private static final Pattern TOLD = Pattern.compile("(.*\\)); *// (-?\\d+)(:.*)?");
    private static final Pattern TABLE_ROW = Pattern.compile("(?m)^\\| `(?:new )?(\\w+)\\(([^)]*)\\)` \\|");

    private static int wrong = 0;

    public static void main(String[] args) throws Exception {
        String text = Files.readString(README);
        checkTable(text);
        checkCode(text);
        System.out.println(wrong == 0 ? "ReadmeTest: all is as told" : "ReadmeTest: " + wrong + " wrong");
        if (wrong != 0) {
            System.exit(1);
        }
    }

    private static void check(boolean fine, String what) {
        if (!fine) {
            wrong++;
            System.out.println("README.md: " + what);
        }
    }

    private static void checkTable(String text) {
        Set<String> told = new TreeSet<>();
        Matcher row = TABLE_ROW.matcher(text);
        while (row.find()) {
            String arguments = row.group(2).trim();
            told.add(row.group(1) + "/" + (arguments.isEmpty() ? 0 : arguments.split(",").length));
        }
        Set<String> face = new TreeSet<>(Set.of("RingCrowd/1"));
        for (Method method : RingCrowd.class.getDeclaredMethods()) {
            if (Modifier.isPublic(method.getModifiers())) {
                face.add(method.getName() + "/" + method.getParameterCount());
            }
        }
        check(told.equals(face), "the table tells " + told + ", the face is " + face);
    }

    private static void checkCode(String text) throws Exception {
        StringBuilder members = new StringBuilder();
        StringBuilder body = new StringBuilder();
        int answers = 0;
        Matcher block = BLOCK.matcher(text);
        while (block.find()) {
            if (block.group(1).startsWith("static ")) {
                members.append(block.group(1));
            } else {
                answers += appendChecked(block.group(1), body);
            }
        }
        check(answers > 0, "no call tells its answer");
        run("public final class ReadmeExample {\n"
            + "public static int wrong = 0;\n"
            + "static void due(String call, int got, int want) {\n"
            + "if (got != want) { wrong++; System.out.println(call + \" answered \" + got + \", told is \" + want); }\n"
            + "}\n" + members
            + "public static void example() {\n" + body + "}\n}\n");
    }

    /** Each line that tells an answer becomes a check of it; the others stay as they are. */
    private static int appendChecked(String lines, StringBuilder body) {
        int answers = 0;
        for (String line : lines.split("\n")) {
            Matcher told = TOLD.matcher(line);
            if (told.matches()) {
                String call = told.group(1);
                String quoted = call.replace("\\", "\\\\").replace("\"", "\\\"");
                line = "due(\"" + quoted + "\", " + call + ", " + told.group(2) + ");";
                answers++;
            } else {
                check(!line.contains("//"), "tells no answer: " + line);
            }
            body.append(line).append('\n');
        }
        return answers;
    }

    private static void run(String source) throws Exception {
        Path dir = Files.createTempDirectory("readme");
        try {
            Path file = dir.resolve("ReadmeExample.java");
            Files.writeString(file, source);
            int code = ToolProvider.getSystemJavaCompiler().run(null, null, null, "-cp",
                System.getProperty("java.class.path"), "-d", dir.toString(), file.toString());
            check(code == 0, "its code does not compile");
            if (code == 0) {
                runCompiled(dir);
            }
        } finally {
            delete(dir);
        }
    }

    private static void runCompiled(Path dir) throws Exception {
        try (URLClassLoader loader = new URLClassLoader(new URL[] {dir.toUri().toURL()})) {
            Class<?> example = loader.loadClass("ReadmeExample");
            example.getMethod("example").invoke(null);
            wrong += example.getField("wrong").getInt(null);
        }
    }

    private static void delete(Path dir) throws IOException {
        try (Stream<Path> files = Files.list(dir)) {
            for (Path file : (Iterable<Path>) files::iterator) {
                Files.delete(file);
            }
        }
        Files.delete(dir);
    }
}
