import java.lang.reflect.Constructor;
import java.lang.reflect.Field;
import java.lang.reflect.Method;
import java.lang.reflect.Modifier;
import java.nio.file.Files;
import java.nio.file.Path;
import java.util.ArrayList;
import java.util.Arrays;
import java.util.List;
import java.util.Set;
import java.util.TreeSet;
import java.util.regex.Matcher;
import java.util.regex.Pattern;

/** The public face, and the rules of ../shared/LANGUAGE.md that can be read off the class and its text. */
public final class RulesTest {
    private static final Set<String> FACE = new TreeSet<>(Arrays.asList(
        "int insert(int, int, int)", "int delete(int, int)", "int get(int, int, int)",
        "int window(int, int, int, int, int)", "int nearest(int, int, int, int)", "int differs()",
        "int result(int, int)", "int size()", "long sum(int, int, int, int, int)", "int commit()", "int abort()",
        "int format()", "boolean arm(int, int)", "int recover()", "int node(int, int, int)", "int count(int)"));

    private static final String[] FORBIDDEN = {
        "\\bimport\\b", "\\bpackage\\b", "\\bthrows?\\b", "\\btry\\b", "\\bcatch\\b", "\\bfinally\\b", "\\bassert\\b",
        "\\bsynchronized\\b", "->", "::", "\\bstatic\\s*\\{", "\\bprotected\\b", "\\bvar\\b", "System\\.(?!arraycopy)",
        "Exact\\b", "while\\s*\\(\\s*true", "for\\s*\\(\\s*;\\s*;"
    };

    private static int wrong = 0;

    private static void due(boolean holds, String rule) {
        if (!holds) {
            wrong++;
            System.out.println("broken: " + rule);
        }
    }

    private static String told(Method method) {
        List<String> types = new ArrayList<>();
        for (Class<?> type : method.getParameterTypes()) {
            types.add(type.getSimpleName());
        }
        return method.getReturnType().getSimpleName() + " " + method.getName() + "(" + String.join(", ", types) + ")";
    }

    private static void face() {
        Class<?> store = PointStore.class;
        due(Modifier.isPublic(store.getModifiers()) && Modifier.isFinal(store.getModifiers()), "public and final");
        Set<String> open = new TreeSet<>();
        for (Method method : store.getDeclaredMethods()) {
            if (!Modifier.isPrivate(method.getModifiers())) {
                open.add(told(method));
                due(Modifier.isPublic(method.getModifiers()), "no package-visible method: " + method.getName());
            }
        }
        due(open.equals(FACE), "the methods of the face, and no others: " + open);
        Constructor<?>[] makers = store.getDeclaredConstructors();
        due(makers.length == 1 && Modifier.isPublic(makers[0].getModifiers())
            && Arrays.equals(makers[0].getParameterTypes(), new Class<?>[] {int.class, int.class, int.class}),
            "the constructor of the face, and no other");
        for (Field field : store.getDeclaredFields()) {
            boolean constant = field.getName().equals("NONE") || field.getName().equals("OFF");
            due(constant == Modifier.isPublic(field.getModifiers()), "face: " + field.getName());
            due(constant || Modifier.isPrivate(field.getModifiers()), "private: " + field.getName());
        }
    }

    private static void insideOf(Class<?> type) {
        int fields = 0;
        for (Field field : type.getDeclaredFields()) {
            if (Modifier.isStatic(field.getModifiers())) {
                due(Modifier.isFinal(field.getModifiers()), "static fields are final: " + field.getName());
            } else {
                fields++;
            }
        }
        due(fields <= 20, "some twenty fields: " + type.getSimpleName());
        for (Method method : type.getDeclaredMethods()) {
            due(method.getParameterCount() <= 7, "seven parameters: " + method.getName());
            boolean ofTheFace = type == PointStore.class && Modifier.isPublic(method.getModifiers());
            boolean faceName = FACE.stream().anyMatch(f -> f.contains(" " + method.getName() + "("));
            due(ofTheFace || !faceName, "no other method has a name of the face: " + method.getName());
        }
    }

    private static void text() throws Exception {
        String source = Files.readString(Path.of("src/main/java/PointStore.java"));
        String code = source.replaceAll("(?s)/\\*.*?\\*/", "").replaceAll("//[^\n]*", "");
        for (String pattern : FORBIDDEN) {
            Matcher found = Pattern.compile(pattern).matcher(code);
            due(!found.find(), "not in the language: " + pattern);
        }
        due(source.chars().allMatch(c -> c < 256), "characters 0 to 255 alone");
    }

    public static void main(String[] args) throws Exception {
        face();
        insideOf(PointStore.class);
        Class<?>[] inside = PointStore.class.getDeclaredClasses();
        due(inside.length <= 12, "some twelve classes");
        for (Class<?> type : inside) {
            due(Modifier.isStatic(type.getModifiers()) && !Modifier.isPublic(type.getModifiers()),
                "classes inside are static and not public: " + type.getSimpleName());
            insideOf(type);
        }
        text();
        System.out.println(wrong == 0 ? "the rules hold" : wrong + " rules are broken");
        if (wrong != 0) {
            System.exit(1);
        }
    }
}
