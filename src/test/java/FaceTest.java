import java.lang.reflect.Constructor;
import java.lang.reflect.Field;
import java.lang.reflect.Method;
import java.lang.reflect.Modifier;
import java.util.Arrays;
import java.util.Map;
import java.util.Set;
import java.util.TreeMap;
import java.util.TreeSet;

/** The public face is that of the document, and nothing else can be seen from outside. */
public final class FaceTest {
    private static final String BAD_ARGUMENT = " IllegalArgumentException";
    private static final String FAULT = " IndexOutOfBoundsException";
    private static final String NOT_ENOUGH = " IllegalStateException";

    /** Each method with its result and parameters, and the exceptions that it names, in their order. */
    private static final Map<String, String> DUE = new TreeMap<>(Map.ofEntries(
        Map.entry("int kmalloc[int]", BAD_ARGUMENT + NOT_ENOUGH),
        Map.entry("void kfree[int]", BAD_ARGUMENT),
        Map.entry("int vmalloc[int]", BAD_ARGUMENT + NOT_ENOUGH),
        Map.entry("int vfree[int]", BAD_ARGUMENT),
        Map.entry("int create[]", NOT_ENOUGH),
        Map.entry("int destroy[int]", BAD_ARGUMENT),
        Map.entry("void mmap[int, int, int]", BAD_ARGUMENT),
        Map.entry("int munmap[int, int, int]", BAD_ARGUMENT),
        Map.entry("int load[int, int]", BAD_ARGUMENT + FAULT + NOT_ENOUGH),
        Map.entry("void store[int, int, int]", BAD_ARGUMENT + FAULT + NOT_ENOUGH),
        Map.entry("int contig[int]", BAD_ARGUMENT + NOT_ENOUGH),
        Map.entry("int release[int]", BAD_ARGUMENT),
        Map.entry("int owner[int]", ""),
        Map.entry("int frame[int, int]", ""),
        Map.entry("int word[int, int]", ""),
        Map.entry("int blocks[int]", ""),
        Map.entry("int free[]", ""),
        Map.entry("int moved[]", "")));

    private static final Class<?> FACE = MovedFrames.class;
    private static final Check check = new Check();

    public static void main(String[] args) {
        theClass();
        theConstructor();
        theMethods();
        hiddenMethods();
        fields();
        classesInside();
        check.end();
    }

    private static void theClass() {
        check.sentence("public final class MovedFrames");
        check.same("its modifiers", Modifier.toString(FACE.getModifiers()), "public final");
        check.same("its package", FACE.getPackageName(), "");
        check.same("what it extends", FACE.getSuperclass().getName(), "java.lang.Object");
        check.same("what it implements", FACE.getInterfaces().length, 0);
        check.same("its type parameters", FACE.getTypeParameters().length, 0);
    }

    private static void theConstructor() {
        check.sentence("public MovedFrames();");
        Constructor<?>[] found = FACE.getDeclaredConstructors();
        check.same("constructors", found.length, 1);
        check.same("its modifiers", Modifier.toString(found[0].getModifiers()), "public");
        check.same("its parameters", found[0].getParameterCount(), 0);
        check.same("the exceptions that it names", found[0].getExceptionTypes().length, 0);
    }

    private static void theMethods() {
        check.sentence("The public face: each method's name, parameters, result and exceptions");
        Map<String, String> found = new TreeMap<>();
        for (Method method : FACE.getDeclaredMethods()) {
            if (!Modifier.isPrivate(method.getModifiers()) && !method.isSynthetic()) {
                check.same("the modifiers of " + method.getName(), Modifier.toString(method.getModifiers()), "public");
                found.put(method.getReturnType() + " " + method.getName()
                    + Arrays.toString(method.getParameterTypes()), exceptionsOf(method));
            }
        }
        check.same("all methods that can be seen", found.toString(), DUE.toString());
    }

    private static String exceptionsOf(Method method) {
        StringBuilder names = new StringBuilder();
        for (Class<?> thrown : method.getExceptionTypes()) {
            names.append(' ').append(thrown.getSimpleName());
        }
        return names.toString();
    }

    private static void hiddenMethods() {
        check.sentence("LANGUAGE.md, rule 1: No private method bears the name of a public one");
        Set<String> names = new TreeSet<>();
        for (Method method : FACE.getDeclaredMethods()) {
            if (Modifier.isPublic(method.getModifiers())) {
                names.add(method.getName());
            }
        }
        for (Method method : FACE.getDeclaredMethods()) {
            boolean hidden = Modifier.isPrivate(method.getModifiers());
            check.same("private methods called " + method.getName(),
                hidden && names.contains(method.getName()) ? 1 : 0, 0);
        }
    }

    private static void fields() {
        check.sentence("LANGUAGE.md, rules 1 and 5: no other member can be seen; static fields are final");
        for (Field field : FACE.getDeclaredFields()) {
            check.same(field.getName() + " is private", Modifier.isPrivate(field.getModifiers()) ? 1 : 0, 1);
            staticIsFinal(field);
        }
    }

    private static void classesInside() {
        check.sentence("LANGUAGE.md, rules 1 and 5: the classes inside are not seen from outside");
        for (Class<?> inside : FACE.getDeclaredClasses()) {
            boolean seen = Modifier.isPublic(inside.getModifiers()) || Modifier.isProtected(inside.getModifiers());
            check.same(inside.getSimpleName() + " can be seen", seen ? 1 : 0, 0);
            for (Field field : inside.getDeclaredFields()) {
                staticIsFinal(field);
            }
        }
    }

    /** A static field that changes would be shared by all objects. */
    private static void staticIsFinal(Field field) {
        int modifiers = field.getModifiers();
        check.same(field + " is static and not final",
            Modifier.isStatic(modifiers) && !Modifier.isFinal(modifiers) ? 1 : 0, 0);
    }
}
