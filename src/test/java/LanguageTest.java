import java.io.IOException;
import java.lang.reflect.Constructor;
import java.lang.reflect.Field;
import java.lang.reflect.Method;
import java.lang.reflect.Modifier;
import java.nio.file.Files;
import java.nio.file.Path;
import java.util.ArrayList;
import java.util.Arrays;
import java.util.Collections;
import java.util.List;
import java.util.Set;
import java.util.TreeSet;
import java.util.regex.Matcher;
import java.util.regex.Pattern;

/** The face as the document has it, and those rules of the language that can be seen in the source or by reflection. */
public final class LanguageTest {
    private static final Path SOURCE = Path.of("src/main/java/RingCrowd.java");
    private static final List<String> METHODS = List.of("robot(int)", "wipe()", "at(int)", "view(int,int)",
        "does(int)", "name(int)", "goal(int)", "step()", "go(int,int)", "feed(long,int)", "rules()", "fault()",
        "proves(int,int,int)", "starts(int,int,int)", "kind()", "as(int)", "ask(int)", "trace(int)", "count(int)");
    private static final List<String> CONSTANTS = List.of("NONE", "BAD", "STATE", "FULL", "KIND");
    private static final int MOST_CLASSES = 12, MOST_FIELDS = 20, MOST_PARAMETERS = 7, MOST_LINES = 60;

    private static int wrong = 0;

    private static void check(boolean fine, String what) {
        if (!fine) {
            wrong++;
            System.out.println("not as it must be: " + what);
        }
    }

    public static void main(String[] args) throws IOException {
        checkFace();
        checkClasses();
        checkWords(withoutComments(Files.readString(SOURCE)));
        checkLengths(Files.readAllLines(SOURCE));
        System.out.println(wrong == 0 ? "LanguageTest: all is as due" : "LanguageTest: " + wrong + " wrong");
        if (wrong != 0) {
            System.exit(1);
        }
    }

    private static void checkFace() {
        Class<?> face = RingCrowd.class;
        check(Modifier.isPublic(face.getModifiers()) && Modifier.isFinal(face.getModifiers()), "public final");
        List<String> open = new ArrayList<>();
        Set<String> names = new TreeSet<>();
        for (Method method : face.getDeclaredMethods()) {
            String told = method.getName() + Arrays.toString(method.getParameterTypes()).replace(" ", "")
                .replace('[', '(').replace(']', ')');
            if (!Modifier.isPrivate(method.getModifiers())) {
                open.add(told);
                names.add(method.getName());
                check(Modifier.isPublic(method.getModifiers()) && !Modifier.isStatic(method.getModifiers())
                    && method.getReturnType() == int.class, told);
            }
        }
        Collections.sort(open);
        List<String> wanted = new ArrayList<>(METHODS);
        Collections.sort(wanted);
        check(open.equals(wanted), "the methods " + open);
        checkNames(names);
        Constructor<?>[] makers = face.getDeclaredConstructors();
        check(makers.length == 1 && Modifier.isPublic(makers[0].getModifiers())
            && Arrays.equals(makers[0].getParameterTypes(), new Class<?>[] {int.class}), "the constructor");
        List<String> fields = new ArrayList<>();
        for (Field field : face.getDeclaredFields()) {
            if (!Modifier.isPrivate(field.getModifiers())) {
                fields.add(field.getName());
            }
        }
        check(fields.equals(CONSTANTS), "the constants " + fields);
    }

    private static void checkNames(Set<String> faceNames) {
        List<Class<?>> classes = new ArrayList<>(Arrays.asList(RingCrowd.class.getDeclaredClasses()));
        classes.add(RingCrowd.class);
        for (Class<?> one : classes) {
            for (Method method : one.getDeclaredMethods()) {
                boolean ofFace = one == RingCrowd.class && Modifier.isPublic(method.getModifiers());
                check(ofFace || !faceNames.contains(method.getName()), "a name of the face: " + method);
            }
        }
    }

    private static void checkClasses() {
        Class<?>[] inside = RingCrowd.class.getDeclaredClasses();
        check(inside.length + 1 <= MOST_CLASSES, "how many classes");
        for (Class<?> one : inside) {
            check(Modifier.isStatic(one.getModifiers()), "static: " + one);
            checkMembers(one);
        }
        checkMembers(RingCrowd.class);
    }

    private static void checkMembers(Class<?> one) {
        int own = 0;
        for (Field field : one.getDeclaredFields()) {
            if (Modifier.isStatic(field.getModifiers())) {
                check(Modifier.isFinal(field.getModifiers()), "a static field that is not final: " + field);
            } else {
                own++;
            }
        }
        check(own <= MOST_FIELDS, "how many fields: " + one);
        for (Method method : one.getDeclaredMethods()) {
            check(method.getParameterCount() <= MOST_PARAMETERS, "how many parameters: " + method);
        }
    }

    private static String withoutComments(String text) {
        return text.replaceAll("(?s)/\\*.*?\\*/", "").replaceAll("//[^\n]*", "").replaceAll("\"[^\"]*\"", "\"\"");
    }

    private static void checkWords(String code) {
        Matcher word = Pattern.compile("\\b(throw|throws|try|catch|finally|synchronized|assert|import|package|Object"
            + "|System|Thread|Random|equals|hashCode|toString|\\w+Exact|double|float)\\b|->|::").matcher(code);
        while (word.find()) {
            check(false, "the source has " + word.group());
        }
        check(code.chars().allMatch(c -> c < 127), "signs up to 126 alone");
        // what a call makes is never given back: objects are made with the object and used again
        for (String line : code.split("\n")) {
            boolean making = Pattern.compile("\\bnew\\b").matcher(line).find();
            check(!making || line.matches("\\s+(private final \\S+ )?\\w+ = new .*"), "an object made: " + line);
        }
    }

    private static void checkLengths(List<String> lines) {
        int start = 0;
        for (int i = 0; i < lines.size(); i++) {
            String line = lines.get(i);
            if (line.matches(" {4,8}(public |private |static )*[\\w<>\\[\\]]+ ?\\w*\\([^;]*\\{")) {
                start = i;
            }
            if (line.matches(" {4,8}\\}")) {
                check(i - start <= MOST_LINES || line.matches(" {4}\\}"), "how long: " + lines.get(start));
            }
            check(line.length() <= 120, "line " + (i + 1) + " is long");
        }
    }
}
