import java.lang.reflect.Constructor;
import java.lang.reflect.Method;
import java.lang.reflect.Modifier;
import java.util.Arrays;
import java.util.Set;
import java.util.TreeSet;

/** The public face is that of the document, and nothing else can be seen from outside. */
public final class FaceTest {
    private static final Check check = new Check();
    private static final String[] DUE = {
        "kmalloc[int]int", "kfree[int]void", "vmalloc[int]int", "vfree[int]int", "create[]int",
        "destroy[int]int", "mmap[int, int, int]void", "munmap[int, int, int]int", "load[int, int]int",
        "store[int, int, int]void", "contig[int]int", "release[int]int", "owner[int]int",
        "frame[int, int]int", "word[int, int]int", "blocks[int]int", "free[]int", "moved[]int"};

    public static void main(String[] args) {
        Class<?> face = MovedFrames.class;
        check.same("public and final", face.getModifiers(), Modifier.PUBLIC | Modifier.FINAL);
        Set<String> names = new TreeSet<>();
        Set<String> found = new TreeSet<>();
        for (Method method : face.getDeclaredMethods()) {
            if (!Modifier.isPrivate(method.getModifiers())) {
                names.add(method.getName());
                found.add(method.getName() + Arrays.toString(method.getParameterTypes())
                    + method.getReturnType());
            }
        }
        if (!found.equals(new TreeSet<>(Arrays.asList(DUE)))) {
            check.tell("the methods that can be seen are " + found);
        }
        for (Method method : face.getDeclaredMethods()) {
            boolean hidden = Modifier.isPrivate(method.getModifiers());
            check.same("private methods called " + method.getName(),
                hidden && names.contains(method.getName()) ? 1 : 0, 0);
        }
        Constructor<?>[] constructors = face.getDeclaredConstructors();
        check.same("constructors", constructors.length, 1);
        check.same("its parameters", constructors[0].getParameterCount(), 0);
        Arrays.stream(face.getDeclaredFields()).forEach(field ->
            check.same("field " + field.getName() + " is private",
                Modifier.isPrivate(field.getModifiers()) ? 1 : 0, 1));
        check.end();
    }
}
