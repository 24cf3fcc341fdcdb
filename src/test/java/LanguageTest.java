import java.io.IOException;
import java.lang.reflect.Field;
import java.lang.reflect.Method;
import java.lang.reflect.Modifier;
import java.nio.file.Files;
import java.nio.file.Path;
import java.util.ArrayList;
import java.util.List;
import java.util.Set;
import java.util.TreeSet;

/** What a machine can see of the rules in LANGUAGE.md: the face, the classes inside, and words that are ruled out. */
public final class LanguageTest {
    private static final Path SOURCE = Path.of("src/main/java/StillText.java");
    private static final Set<String> FACE = Set.of(
            "int feed(int,int,int,int,int)", "boolean end(int)", "int text()", "int fault(int)", "int put(int)",
            "int unit(int,int)", "boolean measure(int,int)", "boolean strains(int,int,int,int,int)",
            "int like(int,int,int)", "int set()", "int lines()", "int line(int,int)", "int sign(int,int)",
            "int rivers(int)", "boolean page(int,int)", "int mark(int)", "int marked(int,int)",
            "boolean test(int,int,int)", "int tested(int)", "int answer(boolean)", "boolean use()");
    // The rules say "some twelve" and "some twenty".
    private static final int SOME_TWELVE = 14;
    private static final int SOME_TWENTY = 22;

    public static void main(String[] args) throws IOException {
        Due due = new Due("LANGUAGE.md");
        face(due);
        List<Class<?>> classes = new ArrayList<>(List.of(StillText.class.getDeclaredClasses()));
        classes.add(StillText.class);
        due.is("some twelve classes", classes.size() <= SOME_TWELVE, true);
        for (Class<?> one : classes) {
            inside(due, one);
        }
        words(due, withoutComments(Files.readString(SOURCE)));
        due.finish();
    }

    private static void face(Due due) {
        Set<String> found = new TreeSet<>();
        for (Method method : StillText.class.getDeclaredMethods()) {
            if (!Modifier.isPrivate(method.getModifiers())) {
                due.is(method + " is public", Modifier.isPublic(method.getModifiers()), true);
                due.is(method + " is of an object", Modifier.isStatic(method.getModifiers()), false);
                found.add(told(method));
            }
        }
        due.is("the methods", found.toString(), new TreeSet<>(FACE).toString());
        due.is("constructors", StillText.class.getDeclaredConstructors().length, 1);
        due.is("public constructors", StillText.class.getConstructors().length, 1);
        due.is("public and final", StillText.class.getModifiers(), Modifier.PUBLIC | Modifier.FINAL);
        for (Field field : StillText.class.getDeclaredFields()) {
            boolean none = field.getName().equals("NONE");
            due.is(field + " is private", Modifier.isPrivate(field.getModifiers()), !none);
        }
    }

    private static String told(Method method) {
        List<String> types = new ArrayList<>();
        for (Class<?> type : method.getParameterTypes()) {
            types.add(type.getName());
        }
        return method.getReturnType().getName() + " " + method.getName() + "(" + String.join(",", types) + ")";
    }

    private static void inside(Due due, Class<?> one) {
        due.is(one + " is static", one == StillText.class || Modifier.isStatic(one.getModifiers()), true);
        int fields = 0;
        for (Field field : one.getDeclaredFields()) {
            boolean constant = Modifier.isStatic(field.getModifiers());
            due.is(field + " is final", !constant || Modifier.isFinal(field.getModifiers()), true);
            fields += constant ? 0 : 1;
        }
        due.is(one + " has some twenty fields", fields <= SOME_TWENTY, true);
        for (Method method : one.getDeclaredMethods()) {
            due.is(method + " has seven parameters at most", method.getParameterCount() <= 7, true);
            boolean publicName = FACE.stream().anyMatch(f -> f.contains(" " + method.getName() + "("));
            boolean secret = Modifier.isPrivate(method.getModifiers());
            due.is(method + " has a name of its own", secret && publicName, false);
        }
    }

    private static void words(Due due, String source) {
        String[] ruledOut = {"throw", "throws", "try", "catch", "finally", "synchronized", "assert", "package",
            "protected", "Object", "Exception", "\\w*Exact", "hashCode", "System\\.(?!arraycopy)"};
        for (String word : ruledOut) {
            due.is("the word " + word, source.matches("(?s).*\\b" + word + "(\\b|(?<=\\.)).*"), false);
        }
        due.is("method reference", source.contains("::"), false);
        for (String line : source.split("\n")) {
            boolean arrowOfCase = line.matches(".*\\b(case|default)\\b.*->.*");
            due.is("lambda: " + line, line.contains("->") && !arrowOfCase, false);
        }
    }

    private static String withoutComments(String source) {
        return source.replaceAll("(?s)/\\*.*?\\*/", "").replaceAll("//[^\n]*", "");
    }
}
