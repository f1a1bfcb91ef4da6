import java.lang.reflect.Constructor;
import java.lang.reflect.Field;
import java.lang.reflect.Method;
import java.lang.reflect.Modifier;
import java.util.Set;
import java.util.TreeSet;

/** The class has the document's face and no other member that can be seen. */
public final class FaceTest {
    public static void main(String[] args) {
        Set<String> due = new TreeSet<>(Set.of(
            "public int feed(int,int,int,int,int)", "public int read(int,int)", "public int change(int)",
            "public int apply(int)", "public int place(int)", "public int many(int,int)",
            "public int byteAt(int,int)", "public boolean copy(int,int)"));
        Set<String> found = new TreeSet<>();
        Class<?> face = UpdateDesk.class;
        for (Method method : face.getDeclaredMethods()) {
            if (!Modifier.isPrivate(method.getModifiers())) {
                found.add(method.toString().replace("UpdateDesk.", ""));
            }
        }
        if (!found.equals(due)) {
            Check.fail("methods " + found + ", due are " + due);
        }
        for (Field field : face.getDeclaredFields()) {
            Check.due("private " + field, Modifier.isPrivate(field.getModifiers()), true);
        }
        Constructor<?>[] constructors = face.getDeclaredConstructors();
        Check.due("constructors", constructors.length, 1);
        Check.due("public constructor", Modifier.isPublic(constructors[0].getModifiers()), true);
        Check.due("its parameters", constructors[0].getParameterCount(), 0);
        Check.due("public class", Modifier.isPublic(face.getModifiers()), true);
        Check.due("final class", Modifier.isFinal(face.getModifiers()), true);
        Check.end();
    }
}
