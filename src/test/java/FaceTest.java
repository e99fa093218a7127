import java.lang.reflect.Constructor;
import java.lang.reflect.Field;
import java.lang.reflect.Member;
import java.lang.reflect.Method;
import java.lang.reflect.Modifier;
import java.util.ArrayList;
import java.util.Arrays;
import java.util.List;
import java.util.TreeSet;

/** The public face: all of it, with the constants, and nothing else that others can see. */
public final class FaceTest {
    private static final List<String> FACE = Arrays.asList(
        "boolean change(int, int)", "boolean cut(int)", "int at(int)", "int check()", "int clear()",
        "int drop()", "int instruction(int, int, int, int, int)", "int length()", "int place()",
        "int prove()", "int receive(long, int)", "int result()", "int run()", "int say(int)", "int steps()");

    private FaceTest() {
    }

    public static void main(String[] args) {
        Due due = new Due("FaceTest");
        due.is("BAD", FilterProof.BAD, -1);
        due.is("NO", FilterProof.NO, -2);
        due.is("FULL", FilterProof.FULL, -3);
        due.is("public final", FilterProof.class.getModifiers(), Modifier.PUBLIC | Modifier.FINAL);

        TreeSet<String> methods = new TreeSet<>();
        for (Method m : FilterProof.class.getDeclaredMethods()) {
            if (!isHidden(m)) {
                methods.add(m.getReturnType() + " " + m.getName() + parameters(m.getParameterTypes()));
            }
        }
        due.is("methods " + methods, new ArrayList<>(methods).equals(FACE), true);

        TreeSet<String> fields = new TreeSet<>();
        for (Field f : FilterProof.class.getDeclaredFields()) {
            if (!isHidden(f)) {
                fields.add(f.getType() + " " + f.getName());
            }
            due.is(f.getName() + " is no static state",
                Modifier.isStatic(f.getModifiers()) && !Modifier.isFinal(f.getModifiers()), false);
        }
        due.is("fields " + fields, fields.toString().equals("[int BAD, int FULL, int NO]"), true);

        Constructor<?>[] made = FilterProof.class.getDeclaredConstructors();
        due.is("constructors", made.length, 1);
        due.is("the constructor", parameters(made[0].getParameterTypes()).equals("(int)"), true);
        for (Class<?> inside : FilterProof.class.getDeclaredClasses()) {
            due.is(inside.getName() + " is static", Modifier.isStatic(inside.getModifiers()), true);
            due.is(inside.getName() + " is public", Modifier.isPublic(inside.getModifiers()), false);
        }
        due.end();
    }

    private static boolean isHidden(Member m) {
        return Modifier.isPrivate(m.getModifiers());
    }

    private static String parameters(Class<?>[] types) {
        String all = Arrays.toString(types);
        return "(" + all.substring(1, all.length() - 1) + ")";
    }
}
