import java.lang.reflect.Constructor;
import java.lang.reflect.Field;
import java.lang.reflect.Method;
import java.lang.reflect.Modifier;
import java.util.Set;
import java.util.TreeSet;

/**
 * The class shows the document's face and nothing else, and its members have the types that
 * LANGUAGE.md leaves (its rules 1, 2 and 5, as far as they can be seen from outside the source).
 */
public final class FaceTest {
    private static final Check CHECK = new Check("face");
    private static final Set<String> FACE = Set.of(
            "public int PosetWidth.put(int,int)",
            "public int PosetWidth.release(int)",
            "public int PosetWidth.before(int,int)",
            "public int PosetWidth.width()",
            "public int PosetWidth.widthWith(int)",
            "public int PosetWidth.widthWithout(int)",
            "public int PosetWidth.chosen(int)",
            "public int PosetWidth.height()",
            "public int PosetWidth.heightWith(int)",
            "public int PosetWidth.widthBeside(int,boolean)");
    private static final Set<Class<?>> PLAIN_TYPES = Set.of(
            int.class, long.class, short.class, byte.class, char.class, boolean.class);

    public static void main(String[] args) {
        classIsPublicAndFinal();
        methodsAreThoseOfTheFace();
        constructorIsTheOne();
        fieldsAreHidden();
        typesArePlain();
        CHECK.end();
    }

    private static void classIsPublicAndFinal() {
        int modifiers = PosetWidth.class.getModifiers();
        CHECK.holds("the class is public", Modifier.isPublic(modifiers));
        CHECK.holds("the class is final", Modifier.isFinal(modifiers));
        CHECK.holds("the class extends no other", PosetWidth.class.getSuperclass() == Object.class);
        CHECK.due("number of interfaces", PosetWidth.class.getInterfaces().length, 0);
        CHECK.due("number of nested classes", PosetWidth.class.getDeclaredClasses().length, 0);
    }

    private static void methodsAreThoseOfTheFace() {
        Set<String> shown = new TreeSet<>();
        Set<String> shownNames = new TreeSet<>();
        for (Method method : PosetWidth.class.getDeclaredMethods()) {
            if (!Modifier.isPrivate(method.getModifiers())) {
                shown.add(method.toString());
                shownNames.add(method.getName());
            }
        }
        CHECK.holds("the methods shown, " + shown + ", are the face", shown.equals(FACE));
        for (Method method : PosetWidth.class.getDeclaredMethods()) {
            boolean hidden = Modifier.isPrivate(method.getModifiers());
            CHECK.holds(method + " has a name of its own", !hidden || !shownNames.contains(method.getName()));
        }
    }

    private static void constructorIsTheOne() {
        Constructor<?>[] constructors = PosetWidth.class.getDeclaredConstructors();
        CHECK.due("number of constructors", constructors.length, 1);
        CHECK.holds("the constructor is public and takes nothing",
                constructors[0].toString().equals("public PosetWidth()"));
    }

    private static void fieldsAreHidden() {
        for (Field field : PosetWidth.class.getDeclaredFields()) {
            int modifiers = field.getModifiers();
            CHECK.holds(field + " is private", Modifier.isPrivate(modifiers));
            boolean constant = Modifier.isFinal(modifiers)
                    && (field.getType() == int.class || field.getType() == long.class);
            CHECK.holds(field + ", if static, is a constant", !Modifier.isStatic(modifiers) || constant);
        }
    }

    private static void typesArePlain() {
        for (Field field : PosetWidth.class.getDeclaredFields()) {
            CHECK.holds(field + " is of a plain type", isPlainOrArray(field.getType()));
        }
        for (Method method : PosetWidth.class.getDeclaredMethods()) {
            Class<?> answer = method.getReturnType();
            CHECK.holds(method + " answers nothing or a plain value",
                    answer == void.class || PLAIN_TYPES.contains(answer));
            for (Class<?> parameter : method.getParameterTypes()) {
                CHECK.holds(method + " takes plain types", isPlainOrArray(parameter));
            }
        }
    }

    private static boolean isPlainOrArray(Class<?> type) {
        return PLAIN_TYPES.contains(type.isArray() ? type.getComponentType() : type);
    }
}
