import java.lang.reflect.Method;
import java.lang.reflect.Modifier;
import java.net.URL;
import java.net.URLClassLoader;
import java.nio.file.Files;
import java.nio.file.Path;
import java.util.regex.Matcher;
import java.util.regex.Pattern;
import javax.tools.JavaCompiler;
import javax.tools.ToolProvider;

/** The lines of README.md answer as they say there, and use every call of the class. */
public final class ReadmeTest {
    private static final Pattern BLOCK = Pattern.compile("(?s)```java\\n(.*?)```");
    private static final Pattern ANSWER =
        Pattern.compile("(?m)^\\w+ (\\w+) = .*; *// (-?\\d+|true|false): .*$");
    private static final int LEAST_ANSWERS = 28;
    private static int wrong = 0;

    private static void due(String what, Object got, Object want) {
        if (!got.equals(want)) {
            wrong++;
            System.out.println(what + ": is " + got + ", due is " + want);
        }
    }

    private static String lines() throws Exception {
        Matcher block = BLOCK.matcher(Files.readString(Path.of("README.md")));
        return block.find() ? block.group(1) : "";
    }

    /** A class whose text() tells each answer that is not the one behind its call. */
    private static String program(String lines) {
        String checked = ANSWER.matcher(lines).replaceAll(
            "$0\nif ($1 != $2) { wrong.append(\"$1 is \").append($1).append(\", due is $2\\\\n\"); }");
        return "public final class Shown { public static String text() {\n"
            + "StringBuilder wrong = new StringBuilder();\n" + checked
            + "return wrong.toString(); } }\n";
    }

    private static String run(String program) throws Exception {
        Path room = Files.createTempDirectory("readme");
        Path source = room.resolve("Shown.java");
        Path made = room.resolve("Shown.class");
        Files.writeString(source, program);
        try {
            JavaCompiler compiler = ToolProvider.getSystemJavaCompiler();
            String path = System.getProperty("java.class.path");
            int code = compiler.run(null, null, null, "-cp", path, "-d", room.toString(), source.toString());
            if (code != 0) {
                return "the lines do not compile\n";
            }
            try (URLClassLoader loader = new URLClassLoader(new URL[] {room.toUri().toURL()})) {
                return (String) loader.loadClass("Shown").getMethod("text").invoke(null);
            }
        } finally {
            Files.deleteIfExists(made);
            Files.deleteIfExists(source);
            Files.deleteIfExists(room);
        }
    }

    public static void main(String[] args) throws Exception {
        String lines = lines();
        due("answers", run(program(lines)), "");
        due("enough answers", ANSWER.matcher(lines).results().count() >= LEAST_ANSWERS, true);
        for (Method method : DrinkingRoofs.class.getDeclaredMethods()) {
            if (Modifier.isPublic(method.getModifiers())) {
                due("README uses " + method.getName(),
                    lines.contains("street." + method.getName() + "("), true);
            }
        }
        System.out.println(wrong == 0 ? "the README holds" : wrong + " things are wrong");
        if (wrong != 0) {
            System.exit(1);
        }
    }
}
