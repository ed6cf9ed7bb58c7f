import java.lang.reflect.Constructor;
import java.lang.reflect.Field;
import java.lang.reflect.Method;
import java.lang.reflect.Modifier;
import java.util.Set;
import java.util.TreeSet;

/** The class shows the document's face and nothing else (LANGUAGE.md, rules 1, 2 and 5). */
public final class FaceTest {
    private static final Check CHECK = new Check("face");
    private static final Set<String> FACE = Set.of(
            "public int PosetWidth.put(int,int)",
            "public int PosetWidth.release(int)",
            "public int PosetWidth.before(int,int)",
            "public int PosetWidth.width()",
            "public int PosetWidth.widthWith(int)",
            "public int PosetWidth.widthWithout(int)",
            "public int PosetWidth.chosen(int)",
            "public int PosetWidth.height()",
            "public int PosetWidth.heightWith(int)",
            "public int PosetWidth.widthBeside(int,boolean)");

    public static void main(String[] args) {
        classIsPublicAndFinal();
        methodsAreThoseOfTheFace();
        constructorIsTheOne();
        fieldsAreHidden();
        CHECK.end();
    }

    private static void classIsPublicAndFinal() {
        int modifiers = PosetWidth.class.getModifiers();
        CHECK.holds("the class is public", Modifier.isPublic(modifiers));
        CHECK.holds("the class is final", Modifier.isFinal(modifiers));
        CHECK.due("number of nested classes", PosetWidth.class.getDeclaredClasses().length, 0);
    }

    private static void methodsAreThoseOfTheFace() {
        Set<String> shown = new TreeSet<>();
        Set<String> shownNames = new TreeSet<>();
        for (Method method : PosetWidth.class.getDeclaredMethods()) {
            if (!Modifier.isPrivate(method.getModifiers())) {
                shown.add(method.toString());
                shownNames.add(method.getName());
            }
        }
        CHECK.holds("the methods shown, " + shown + ", are the face", shown.equals(FACE));
        for (Method method : PosetWidth.class.getDeclaredMethods()) {
            boolean hidden = Modifier.isPrivate(method.getModifiers());
            CHECK.holds(method + " has a name of its own", !hidden || !shownNames.contains(method.getName()));
        }
    }

    private static void constructorIsTheOne() {
        Constructor<?>[] constructors = PosetWidth.class.getDeclaredConstructors();
        CHECK.due("number of constructors", constructors.length, 1);
        CHECK.holds("the constructor is public and takes nothing",
                constructors[0].toString().equals("public PosetWidth()"));
    }

    private static void fieldsAreHidden() {
        for (Field field : PosetWidth.class.getDeclaredFields()) {
            int modifiers = field.getModifiers();
            CHECK.holds(field + " is private", Modifier.isPrivate(modifiers));
            boolean constant = Modifier.isFinal(modifiers)
                    && (field.getType() == int.class || field.getType() == long.class);
            CHECK.holds(field + ", if static, is a constant", !Modifier.isStatic(modifiers) || constant);
        }
    }
}
