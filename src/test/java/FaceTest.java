import java.lang.reflect.Constructor;
import java.lang.reflect.Field;
import java.lang.reflect.Method;
import java.lang.reflect.Modifier;
import java.util.Set;
import java.util.TreeSet;

/** The public face is the document's, no more and no less. */
public final class FaceTest {
    private static final Set<String> FACE = Set.of(
            "int good()", "int part(int, int, long, int)", "boolean into(int, int)",
            "boolean life(int, int)", "boolean change(int, long, int, long)", "long total(int, int)",
            "long totalOn(int, int, long)", "long frees(int, int)", "int version(int)",
            "boolean right(int, int, boolean)", "long seen(int, int, int, int)", "boolean unit(int)",
            "int score()", "long scored(int)", "int swap(int, int)", "int mark(int, long, int)",
            "int most(int)");

    public static void main(String[] args) {
        Class<?> type = MaterialPassports.class;
        Due.is("public final", type.getModifiers(), Modifier.PUBLIC | Modifier.FINAL);
        constructors(type);
        fields(type);
        methods(type);
        for (Class<?> inside : type.getDeclaredClasses()) {
            int modifiers = inside.getModifiers();
            Due.is(inside + " is hidden", Modifier.isPublic(modifiers) || Modifier.isProtected(modifiers), false);
            Due.is(inside + " is static", Modifier.isStatic(modifiers), true);
        }
        Due.end();
    }

    private static void constructors(Class<?> type) {
        Constructor<?>[] all = type.getDeclaredConstructors();
        Due.is("constructors", all.length, 1);
        Due.is("public", all[0].getModifiers(), Modifier.PUBLIC);
        Due.is("without parameters", all[0].getParameterCount(), 0);
    }

    private static void fields(Class<?> type) {
        for (Field field : type.getDeclaredFields()) {
            boolean constant = field.getName().equals("NONE");
            Due.is(field.getName() + " is public", Modifier.isPublic(field.getModifiers()), constant);
            Due.is(field.getName() + " is private", Modifier.isPrivate(field.getModifiers()), !constant);
            if (Modifier.isStatic(field.getModifiers())) {
                Due.is(field.getName() + " is final", Modifier.isFinal(field.getModifiers()), true);
            }
        }
    }

    private static void methods(Class<?> type) {
        Set<String> publicNames = new TreeSet<>();
        Set<String> found = new TreeSet<>();
        for (Method method : type.getDeclaredMethods()) {
            if (method.getModifiers() == Modifier.PUBLIC) {
                publicNames.add(method.getName());
                found.add(signature(method));
            }
        }
        Due.is("the methods of the face " + found, found.equals(FACE), true);
        for (Method method : type.getDeclaredMethods()) {
            if (method.getModifiers() != Modifier.PUBLIC) {
                Due.is(method + " is private", Modifier.isPrivate(method.getModifiers()), true);
                Due.is(method + " has a public one's name", publicNames.contains(method.getName()), false);
            }
        }
    }

    private static String signature(Method method) {
        StringBuilder text = new StringBuilder();
        for (Class<?> parameter : method.getParameterTypes()) {
            text.append(text.length() == 0 ? "" : ", ").append(parameter.getName());
        }
        return method.getReturnType().getName() + " " + method.getName() + "(" + text + ")";
    }
}
