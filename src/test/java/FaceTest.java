import java.lang.reflect.Constructor;
import java.lang.reflect.Field;
import java.lang.reflect.Method;
import java.lang.reflect.Modifier;
import java.util.Arrays;
import java.util.HashSet;
import java.util.Set;
import java.util.TreeSet;

/** The public face of the document, and that nothing else can be seen from outside. */
public final class FaceTest {
    private static final Set<String> METHODS = new TreeSet<>(Arrays.asList(
        "boolean clear[]", "int word[boolean, int, int]", "boolean set[int, int]", "int check[]",
        "boolean start[]", "int advance[int]", "boolean hold[]", "boolean resume[]", "boolean stop[]",
        "boolean trip[int, int]", "int at[int]", "int state[int]", "int after[int, int]", "int joint[int]"));

    public static void main(String[] args) {
        Due.is("BAD", MillDesk.BAD, -1);
        Due.is("FULL", MillDesk.FULL, -2);
        Due.yes("the class is public and final",
            Modifier.isPublic(MillDesk.class.getModifiers()) && Modifier.isFinal(MillDesk.class.getModifiers()));
        methods();
        fields();
        for (Constructor<?> c : MillDesk.class.getDeclaredConstructors()) {
            Due.yes("the constructor is public without parameters",
                Modifier.isPublic(c.getModifiers()) && c.getParameterCount() == 0);
        }
        Due.is("nested classes", MillDesk.class.getDeclaredClasses().length, 0);
        Due.end("FaceTest");
    }

    private static void methods() {
        Set<String> seen = new TreeSet<>();
        Set<String> names = new HashSet<>();
        for (String face : METHODS) {
            names.add(face.substring(face.indexOf(' ') + 1, face.indexOf('[')));
        }
        for (Method m : MillDesk.class.getDeclaredMethods()) {
            Due.yes(m.getName() + " has at most seven parameters", m.getParameterCount() <= 7);
            if (Modifier.isPrivate(m.getModifiers())) {
                Due.no("private " + m.getName() + " bears a public name", names.contains(m.getName()));
            } else {
                Due.yes(m.getName() + " is public", Modifier.isPublic(m.getModifiers()));
                seen.add(m.getReturnType() + " " + m.getName() + Arrays.toString(m.getParameterTypes()));
            }
        }
        if (!seen.equals(METHODS)) System.out.println("methods: " + seen);
        Due.yes("the public methods are the document's", seen.equals(METHODS));
    }

    private static void fields() {
        int own = 0;
        for (Field f : MillDesk.class.getDeclaredFields()) {
            int how = f.getModifiers();
            boolean constant = Modifier.isStatic(how);
            boolean face = f.getName().equals("BAD") || f.getName().equals("FULL");
            Due.yes(f.getName() + " is private or of the face", face ? Modifier.isPublic(how) : Modifier.isPrivate(how));
            if (constant) {
                boolean number = f.getType() == int.class || f.getType() == long.class;
                Due.yes(f.getName() + " is a constant number", Modifier.isFinal(how) && number);
            } else {
                own++;
            }
        }
        Due.yes("at most forty fields: " + own, own <= 40);
    }
}
