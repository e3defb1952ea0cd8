import java.lang.reflect.Constructor;
import java.lang.reflect.Field;
import java.lang.reflect.Method;
import java.lang.reflect.Modifier;
import java.util.Set;
import java.util.TreeSet;

/** The public face: the constants, constructor and methods of the document, and nothing else that can be seen. */
public final class FaceTest {
    static final Set<String> METHODS = Set.of(
        "spawn/2", "kill/1", "put/3", "drop/2", "get/2", "parts/1", "living/0", "count/2", "next/3",
        "sum/3", "kinds/0", "system/2", "unsystem/0", "stage/1", "stages/0", "frame/1", "digest/0");

    public static void main(String[] args) {
        Check.due("BAD_ARG", ArchetypeWorld.BAD_ARG, -1);
        Check.due("FULL", ArchetypeWorld.FULL, -2);
        Check.due("NONE", ArchetypeWorld.NONE, -4);
        theClassIsPublicAndFinal();
        theMethodsAreThoseOfTheDocument();
        theFieldsAreThoseOfTheDocument();
        Check.end();
    }

    private static void theClassIsPublicAndFinal() {
        int modifiers = ArchetypeWorld.class.getModifiers();
        Check.holds("public class", Modifier.isPublic(modifiers));
        Check.holds("final class", Modifier.isFinal(modifiers));
        Check.due("nested classes", ArchetypeWorld.class.getDeclaredClasses().length, 0);
        Constructor<?>[] constructors = ArchetypeWorld.class.getDeclaredConstructors();
        Check.due("constructors", constructors.length, 1);
        Check.due("the constructor's parameters", constructors[0].getParameterCount(), 0);
        Check.holds("public constructor", Modifier.isPublic(constructors[0].getModifiers()));
    }

    private static void theMethodsAreThoseOfTheDocument() {
        Set<String> seen = new TreeSet<>();
        Set<String> hidden = new TreeSet<>();
        for (Method method : ArchetypeWorld.class.getDeclaredMethods()) {
            if (Modifier.isPrivate(method.getModifiers())) {
                hidden.add(method.getName());
                continue;
            }
            seen.add(method.getName() + "/" + method.getParameterCount());
            Check.holds(method.getName() + " is public", Modifier.isPublic(method.getModifiers()));
            Check.holds(method.getName() + " is not static", !Modifier.isStatic(method.getModifiers()));
            Check.holds(method.getName() + " answers an int", method.getReturnType() == int.class);
            for (Class<?> type : method.getParameterTypes()) {
                Check.holds(method.getName() + " takes ints", type == int.class);
            }
        }
        Check.holds("the methods " + seen + " being " + METHODS, seen.equals(METHODS));
        for (String method : METHODS) {
            String name = method.substring(0, method.indexOf('/'));
            Check.holds("no private method named " + name, !hidden.contains(name));
        }
    }

    private static void theFieldsAreThoseOfTheDocument() {
        Set<String> seen = new TreeSet<>();
        for (Field field : ArchetypeWorld.class.getDeclaredFields()) {
            if (!Modifier.isPrivate(field.getModifiers())) {
                seen.add(Modifier.toString(field.getModifiers()) + " " + field.getType() + " " + field.getName());
            }
        }
        Set<String> due = Set.of(
            "public static final int BAD_ARG", "public static final int FULL", "public static final int NONE");
        Check.holds("the constants " + seen + " being " + due, seen.equals(due));
    }
}
