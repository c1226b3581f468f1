import java.lang.reflect.Constructor;
import java.lang.reflect.Field;
import java.lang.reflect.Method;
import java.lang.reflect.Modifier;
import java.util.Arrays;
import java.util.HashSet;
import java.util.NoSuchElementException;
import java.util.Set;
import java.util.TreeSet;

/** The document's public face, and what the rules of LANGUAGE.md say of the class and its members. */
public final class FaceTest extends Checks {
    private static final Set<String> FACE = Set.of(
        "int feed(long, long, long)", "int mountain()", "int station(int, int)", "int way(int, int, int)",
        "int carrier(int, int) throws NoSuchElementException", "int paths()", "int path(int, int)",
        "int trip(int, int, int, int)", "int send(int, int, int)", "int rest()", "boolean seed(int)",
        "int drank(int, int)", "int best(int, int, int)", "int plan(int)", "int relay(int, int)",
        "boolean owe(int, int, int)", "int owes(int, int)", "int debt(int) throws NoSuchElementException",
        "int settled()", "int missed(int, int)", "int odds(int, int, int)", "boolean patch(int, boolean)",
        "boolean undo()", "boolean mark(int, boolean)", "int count(int)");

    public static void main(String[] args) {
        runAll(FaceTest.class);
    }

    /** "public final class SkinCarriers", with a constructor of no parameters, and no other one. */
    static void promise01TheClassAndItsConstructor() {
        int modifiers = SkinCarriers.class.getModifiers();
        due("public", Modifier.isPublic(modifiers), true);
        due("final", Modifier.isFinal(modifiers), true);
        due("in no package", SkinCarriers.class.getPackageName().isEmpty(), true);
        Constructor<?>[] made = SkinCarriers.class.getDeclaredConstructors();
        due("constructors", made.length, 1);
        for (Constructor<?> one : made) {
            due("public constructor", Modifier.isPublic(one.getModifiers()), true);
            due("parameters of the constructor", one.getParameterCount(), 0);
            due("exceptions of the constructor", one.getExceptionTypes().length, 0);
        }
    }

    /** "NONE = -1": a constant; no other field is seen from outside. */
    static void promisesAllHaveNone() {
        due("NONE", SkinCarriers.NONE, -1);
        for (Field field : SkinCarriers.class.getDeclaredFields()) {
            int modifiers = field.getModifiers();
            if (!field.isSynthetic() && !Modifier.isPrivate(modifiers)) {
                due("field " + field.getName() + " is NONE", field.getName().equals("NONE"), true);
                due("NONE is public", Modifier.isPublic(modifiers), true);
                due("NONE is an int", field.getType() == int.class, true);
            }
        }
    }

    /** "with the public constructor, methods and constants of the document and no other" (LANGUAGE.md, 1). */
    static void promisesAllHaveTheirMethods() {
        Set<String> seen = new TreeSet<>();
        Set<String> open = new HashSet<>();
        for (Method method : SkinCarriers.class.getDeclaredMethods()) {
            if (!method.isSynthetic() && !Modifier.isPrivate(method.getModifiers())) {
                seen.add(signature(method));
                open.add(method.getName());
                due(method.getName() + " is public", Modifier.isPublic(method.getModifiers()), true);
                due(method.getName() + " is static", Modifier.isStatic(method.getModifiers()), false);
            }
        }
        if (!seen.equals(FACE)) {
            tell("the face is " + seen + ", due is " + new TreeSet<>(FACE));
        }
        tellPrivateNames(SkinCarriers.class, open);
        for (Class<?> inside : SkinCarriers.class.getDeclaredClasses()) {
            tellPrivateNames(inside, open);
        }
    }

    /** "No private method bears the name of a public one" (LANGUAGE.md, 1). */
    private static void tellPrivateNames(Class<?> one, Set<String> open) {
        for (Method method : one.getDeclaredMethods()) {
            if (Modifier.isPrivate(method.getModifiers()) && open.contains(method.getName())) {
                tell("a private method of " + one.getName() + " is named " + method.getName());
            }
        }
    }

    /** Classes inside are static and not public, some twelve in all, some twenty fields each, seven parameters at most. */
    static void promisesAllKeepToTheRulesOfClasses() {
        Class<?>[] inside = SkinCarriers.class.getDeclaredClasses();
        due("twelve classes at most", inside.length <= 11, true);
        tellLargeOnes(SkinCarriers.class);
        for (Class<?> one : inside) {
            int modifiers = one.getModifiers();
            due(one.getName() + " is static", Modifier.isStatic(modifiers), true);
            due(one.getName() + " is public", Modifier.isPublic(modifiers) || Modifier.isProtected(modifiers), false);
            tellLargeOnes(one);
        }
    }

    private static void tellLargeOnes(Class<?> one) {
        int fields = 0;
        for (Field field : one.getDeclaredFields()) {
            boolean isStatic = Modifier.isStatic(field.getModifiers());
            fields += isStatic ? 0 : 1;
            due("static " + one.getName() + "." + field.getName() + " is final",
                !isStatic || Modifier.isFinal(field.getModifiers()), true);
        }
        due("twenty fields at most in " + one.getName(), fields <= 20, true);
        for (Method method : one.getDeclaredMethods()) {
            due("seven parameters at most of " + method.getName(), method.getParameterCount() <= 7, true);
        }
    }

    private static String signature(Method method) {
        StringBuilder text = new StringBuilder(method.getReturnType().getSimpleName());
        text.append(' ').append(method.getName()).append('(');
        text.append(String.join(", ", Arrays.stream(method.getParameterTypes()).map(Class::getSimpleName).toList()));
        text.append(')');
        for (Class<?> thrown : method.getExceptionTypes()) {
            due(thrown.getSimpleName() + " of " + method.getName(), thrown == NoSuchElementException.class, true);
            text.append(" throws ").append(thrown.getSimpleName());
        }
        return text.toString();
    }
}
