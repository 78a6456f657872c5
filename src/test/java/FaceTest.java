import java.lang.reflect.Constructor;
import java.lang.reflect.Field;
import java.lang.reflect.Method;
import java.lang.reflect.Modifier;
import java.nio.charset.StandardCharsets;
import java.nio.file.Files;
import java.nio.file.Path;
import java.util.Arrays;
import java.util.Set;
import java.util.TreeSet;
import java.util.regex.Matcher;
import java.util.regex.Pattern;

/** The document's face and no other visible member, and words that LANGUAGE.md rules out. */
public final class FaceTest {
    private static final String[] FACE = {
        "int house(int, int, int, int)", "boolean next(int, int)", "boolean tell(int, int, int)",
        "int storm(int)", "boolean fall(int, int, int, boolean)",
        "int feed(int, int, int, int, int)", "boolean end(int)", "int text()", "int fault(int)",
        "int comes(int)", "int of(int, int)", "int hour(int, int, int)",
        "long blame(int, int, int, int)", "int cleanings(int, int, int, int, int)",
        "int gutters(int, int)", "int stains(int, int)", "int drain(int)",
        "int added(int, int, int, int)", "boolean image(boolean)", "int look(int)"};
    private static final String[] RULED_OUT = {
        "throw", "throws", "try", "catch", "synchronized", "assert", "import", "volatile",
        "Object", "Exception", "System.out", "System.nanoTime", "System.currentTimeMillis",
        "Exact", "->", "::", "hashCode", "toString", "static {"};
    private static int wrong = 0;

    private static void due(String what, Object got, Object want) {
        if (!got.equals(want)) {
            wrong++;
            System.out.println(what + ": is " + got + ", due is " + want);
        }
    }

    private static String told(Method method) {
        String types = Arrays.toString(method.getParameterTypes());
        return method.getReturnType() + " " + method.getName()
            + "(" + types.substring(1, types.length() - 1) + ")";
    }

    private static void members() throws Exception {
        Class<?> face = DrinkingRoofs.class;
        due("modifiers", Modifier.toString(face.getModifiers()), "public final");
        Set<String> names = new TreeSet<>();
        Set<String> methods = new TreeSet<>();
        for (Method method : face.getDeclaredMethods()) {
            if (!Modifier.isPrivate(method.getModifiers())) {
                due("visibility", Modifier.toString(method.getModifiers()), "public");
                methods.add(told(method));
                names.add(method.getName());
            }
        }
        due("methods", methods, new TreeSet<>(Arrays.asList(FACE)));
        for (Field field : face.getDeclaredFields()) {
            if (!Modifier.isPrivate(field.getModifiers())) {
                due("field", Modifier.toString(field.getModifiers()) + " " + field.getType() + " "
                    + field.getName(), "public static final int NONE");
            }
        }
        due("NONE", DrinkingRoofs.NONE, -1);
        due("constructors", face.getDeclaredConstructors().length, 1);
        Constructor<?> made = face.getDeclaredConstructor();
        due("constructor", Modifier.toString(made.getModifiers()), "public");
        for (Class<?> inside : face.getDeclaredClasses()) {
            due("static " + inside, Modifier.isStatic(inside.getModifiers()), true);
            due("hidden " + inside, Modifier.isPublic(inside.getModifiers()), false);
            for (Method method : inside.getDeclaredMethods()) {
                due("own name " + method, names.contains(method.getName()), false);
                due("parameters of " + method, method.getParameterCount() <= 7, true);
            }
        }
        due("classes", face.getDeclaredClasses().length < 12, true);
    }

    private static void words() throws Exception {
        Path path = Path.of("src/main/java/DrinkingRoofs.java");
        String source = Files.readString(path, StandardCharsets.US_ASCII);
        String code = source.replaceAll("(?s)/\\*.*?\\*/", "").replaceAll("//[^\\n]*", "");
        for (String word : RULED_OUT) {
            boolean name = Character.isLetter(word.charAt(0));
            Matcher found = Pattern.compile((name ? "\\b" : "") + Pattern.quote(word)
                + (Character.isLetter(word.charAt(word.length() - 1)) ? "\\b" : "")).matcher(code);
            due("ruled out: " + word, found.find(), false);
        }
    }

    public static void main(String[] args) throws Exception {
        members();
        words();
        System.out.println(wrong == 0 ? "the face is the document's" : wrong + " things are wrong");
        if (wrong != 0) {
            System.exit(1);
        }
    }
}
