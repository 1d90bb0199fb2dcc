import java.lang.reflect.Constructor;
import java.lang.reflect.Field;
import java.lang.reflect.Method;
import java.lang.reflect.Modifier;
import java.util.Set;
import java.util.TreeSet;

/** The public face: the document's constants, constructor and methods, and nothing else. */
public final class FaceTest {
    private static final Set<String> METHODS = Set.of("void clear(boolean)", "int length()", "int byteAt(int)",
            "boolean poke(int,int)", "boolean begin(int,int,int)", "int shape()", "boolean fill(int,int,int,int,int)",
            "void wash(int,int,int)", "int sample(int,int)", "boolean label(int,int)", "int unlabel()",
            "int write(int,int,int)", "int pages()", "boolean sound()", "int load(int)", "long field(int,int,int)",
            "long fieldCount(int,int)");
    private static final Set<String> CONSTANTS = Set.of("BAD_ARGUMENT -1", "UNSOUND -2", "FULL -3", "NO_PAGE -4",
            "BAD_FIELDS -5", "BAD_STRIP -6");

    public static void main(String[] args) throws IllegalAccessException {
        int modifiers = TaggedRaster.class.getModifiers();
        Check.due("the class is public and final", Modifier.isPublic(modifiers) && Modifier.isFinal(modifiers), true);
        same("methods", methods(), METHODS);
        same("constants", constants(), CONSTANTS);
        for (Constructor<?> constructor : TaggedRaster.class.getDeclaredConstructors()) {
            Check.due("the constructor is public", Modifier.isPublic(constructor.getModifiers()), true);
            Check.due("it takes nothing", constructor.getParameterCount(), 0);
        }
        Check.end();
    }

    private static void same(String what, Set<String> got, Set<String> want) {
        Check.due(what + " " + new TreeSet<>(got) + " against " + new TreeSet<>(want), got.equals(want), true);
    }

    private static Set<String> methods() {
        Set<String> found = new TreeSet<>();
        for (Method method : TaggedRaster.class.getDeclaredMethods()) {
            if (!Modifier.isPrivate(method.getModifiers()) && !method.isSynthetic()) {
                StringBuilder types = new StringBuilder();
                for (Class<?> type : method.getParameterTypes()) {
                    types.append(types.length() == 0 ? "" : ",").append(type);
                }
                found.add(method.getReturnType() + " " + method.getName() + "(" + types + ")");
            }
        }
        return found;
    }

    private static Set<String> constants() throws IllegalAccessException {
        Set<String> found = new TreeSet<>();
        for (Field field : TaggedRaster.class.getDeclaredFields()) {
            if (!Modifier.isPrivate(field.getModifiers())) {
                found.add(field.getName() + " " + field.getInt(null));
            }
        }
        return found;
    }
}
