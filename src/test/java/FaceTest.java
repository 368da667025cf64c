import java.lang.reflect.Field;
import java.lang.reflect.Member;
import java.lang.reflect.Method;
import java.lang.reflect.Modifier;
import java.util.Set;
import java.util.TreeSet;

/** The class shows the document's public face and nothing else. */
public final class FaceTest {
    private static int wrong = 0;

    private static void same(String what, Object got, Object due) {
        if (!got.equals(due)) {
            wrong++;
            System.out.println(what + ": got " + got + ", due is " + due);
        }
    }

    private static boolean isHidden(Member member) {
        return Modifier.isPrivate(member.getModifiers()) || member.isSynthetic();
    }

    private static Set<String> visibleMethods(Class<?> c) {
        Set<String> seen = new TreeSet<>();
        for (Method m : c.getDeclaredMethods()) {
            if (!isHidden(m)) {
                StringBuilder text = new StringBuilder(Modifier.toString(m.getModifiers()));
                text.append(' ').append(m.getReturnType()).append(' ').append(m.getName());
                for (Class<?> p : m.getParameterTypes()) {
                    text.append(' ').append(p);
                }
                seen.add(text.toString());
            }
        }
        return seen;
    }

    private static Set<String> visibleFields(Class<?> c) throws IllegalAccessException {
        Set<String> seen = new TreeSet<>();
        for (Field f : c.getDeclaredFields()) {
            if (!isHidden(f)) {
                String value = Modifier.isStatic(f.getModifiers()) ? " = " + f.get(null) : "";
                seen.add(Modifier.toString(f.getModifiers()) + " " + f.getType() + " " + f.getName() + value);
            }
        }
        return seen;
    }

    private static Set<String> namesSharedByPrivateAndPublic(Class<?> c) {
        Set<String> shared = new TreeSet<>();
        for (Method open : c.getDeclaredMethods()) {
            for (Method hidden : c.getDeclaredMethods()) {
                boolean pair = !isHidden(open) && Modifier.isPrivate(hidden.getModifiers());
                if (pair && open.getName().equals(hidden.getName())) {
                    shared.add(open.getName());
                }
            }
        }
        return shared;
    }

    public static void main(String[] args) throws IllegalAccessException {
        Class<?> c = DlogSolver.class;
        same("methods", visibleMethods(c), new TreeSet<>(Set.of(
            "public int prime int",
            "public int modulus",
            "public int nextPrime",
            "public int power int int",
            "public int inverse int",
            "public int order int",
            "public int generator",
            "public int generators",
            "public int log int int",
            "public int root int int",
            "public int roots int int",
            "public int logWith int int int int",
            "public int common int int",
            "public int unitOfOrder int",
            "public int unitsOfOrder int")));
        same("fields", visibleFields(c), new TreeSet<>(Set.of(
            "public static final int BAD_ARG = -1",
            "public static final int NONE = -4")));
        same("constructors", c.getDeclaredConstructors().length, 1);
        same("constructor", c.getDeclaredConstructors()[0].toString(), "public DlogSolver()");
        same("class", Modifier.toString(c.getModifiers()), "public final");
        same("nested classes", c.getDeclaredClasses().length, 0);
        same("names shared by private and public methods", namesSharedByPrivateAndPublic(c), new TreeSet<String>());
        System.out.println(wrong == 0 ? "the face is as due" : wrong + " parts of the face are not as due");
        if (wrong != 0) {
            System.exit(1);
        }
    }
}
