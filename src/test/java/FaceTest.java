import java.lang.reflect.Constructor;
import java.lang.reflect.Field;
import java.lang.reflect.Method;
import java.lang.reflect.Modifier;
import java.util.Arrays;
import java.util.Set;
import java.util.TreeSet;

/** The public face, and promise 1: a new object. */
public final class FaceTest {
    public static void main(String[] args) {
        Bench.due("NONE", CodeSmith.NONE, -1);
        face();
        newObject();
        objectsAreApart();
        Bench.finish();
    }

    private static void face() {
        Set<String> found = new TreeSet<>();
        for (Method method : CodeSmith.class.getDeclaredMethods()) {
            if (!Modifier.isPrivate(method.getModifiers()) && !method.isSynthetic()) {
                found.add(method.getReturnType() + " " + method.getName() + Arrays.toString(method.getParameterTypes()));
            }
        }
        for (Field field : CodeSmith.class.getDeclaredFields()) {
            if (!Modifier.isPrivate(field.getModifiers()) && !field.isSynthetic()) {
                found.add(field.getType() + " " + field.getName());
            }
        }
        Set<String> want = new TreeSet<>(Set.of("boolean feed[int, int, int, int, int]", "boolean end[int]",
            "int size[]", "int assemble[]", "int error[int]", "int image[int]", "int about[int]", "int NONE"));
        Bench.due("the face is " + found, found.equals(want), true);
        Constructor<?>[] constructors = CodeSmith.class.getDeclaredConstructors();
        Bench.due("constructors", constructors.length, 1);
        Bench.due("parameters of the constructor", constructors[0].getParameterCount(), 0);
        Bench.due("final", Modifier.isFinal(CodeSmith.class.getModifiers()), true);
    }

    private static void newObject() {
        CodeSmith smith = new CodeSmith();
        Bench.due("size()", smith.size(), 0);
        for (int what = -2; what <= 5; what++) {
            Bench.due("error(" + what + ")", smith.error(what), 0);
            Bench.due("about(" + what + ")", smith.about(what), what >= 0 && what <= 3 ? 0 : -1);
        }
        for (int k : new int[] {Integer.MIN_VALUE, -1, 0, 1, 83, 65536, Integer.MAX_VALUE}) {
            Bench.due("image(" + k + ")", smith.image(k), -1);
        }
    }

    private static void objectsAreApart() {
        CodeSmith one = Bench.made("a: nop\n");
        CodeSmith other = Bench.made(".data\n.byte 1, 2\n");
        Bench.due("text of one", one.about(1), 4);
        Bench.due("data of one", one.about(2), 0);
        Bench.due("data of the other", other.about(2), 2);
        Bench.due("symbols of the other", other.about(3), 0);
    }
}
