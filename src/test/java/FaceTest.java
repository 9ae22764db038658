import java.lang.reflect.Constructor;
import java.lang.reflect.Field;
import java.lang.reflect.Method;
import java.lang.reflect.Modifier;
import java.util.Arrays;
import java.util.Set;
import java.util.TreeSet;

/** The class has the members of the document's public face, and shows no others. */
public final class FaceTest {
    private static final Set<String> DUE = new TreeSet<>(Arrays.asList(
        "public static final int BAD",
        "public static final int NO",
        "public static final int FULL",
        "public RefinementBench()",
        "public int type(long, int)",
        "public int hold(int)",
        "public int begin(int)",
        "public int refine(int, int, int)",
        "public int prove(int)",
        "public int refuting(int)",
        "public int open()",
        "public int first()",
        "public int prune(int)",
        "public int node(int, int)",
        "public int text(int, int, int)",
        "public int program()",
        "public int instruction(int, int)",
        "public int run(int, int, int, int)",
        "public int after(int)"));

    private static int wrong = 0;

    public static void main(String[] args) {
        Class<?> face = RefinementBench.class;
        due("modifiers", Modifier.toString(face.getModifiers()), "public final");
        due("superclass", face.getSuperclass().getName(), "java.lang.Object");
        due("members", shownMembers(face).toString(), DUE.toString());
        due("constants", RefinementBench.BAD + " " + RefinementBench.NO + " " + RefinementBench.FULL,
            "-1 -2 -3");
        for (Class<?> inside : face.getDeclaredClasses()) {
            int is = inside.getModifiers();
            due(inside.getName() + " is static", "" + Modifier.isStatic(is), "true");
            due(inside.getName() + " is shown", "" + (Modifier.isPublic(is) || Modifier.isProtected(is)), "false");
            noNameOfTheFace(inside);
        }
        noStaticState(face);
        System.out.println(wrong == 0 ? "the face is as due" : wrong + " faults of the face");
        if (wrong != 0) {
            System.exit(1);
        }
    }

    private static Set<String> shownMembers(Class<?> face) {
        Set<String> shown = new TreeSet<>();
        for (Field one : face.getDeclaredFields()) {
            if (!Modifier.isPrivate(one.getModifiers())) {
                shown.add(Modifier.toString(one.getModifiers()) + " " + one.getType() + " " + one.getName());
            }
        }
        for (Constructor<?> one : face.getDeclaredConstructors()) {
            shown.add(Modifier.toString(one.getModifiers()) + " " + one.getName()
                + parameters(one.getParameterTypes()));
        }
        for (Method one : face.getDeclaredMethods()) {
            if (!Modifier.isPrivate(one.getModifiers())) {
                shown.add(Modifier.toString(one.getModifiers()) + " " + one.getReturnType() + " " + one.getName()
                    + parameters(one.getParameterTypes()));
            }
        }
        return shown;
    }

    private static String parameters(Class<?>[] types) {
        return Arrays.toString(types).replace('[', '(').replace(']', ')');
    }

    private static void noNameOfTheFace(Class<?> inside) {
        for (Method one : inside.getDeclaredMethods()) {
            for (Method shown : RefinementBench.class.getMethods()) {
                if (shown.getDeclaringClass() == RefinementBench.class) {
                    due(inside.getName() + "." + one.getName() + " has a name of the face",
                        "" + shown.getName().equals(one.getName()), "false");
                }
            }
        }
    }

    private static void noStaticState(Class<?> face) {
        for (Field one : face.getDeclaredFields()) {
            if (Modifier.isStatic(one.getModifiers())) {
                due(one.getName() + " is final", "" + Modifier.isFinal(one.getModifiers()), "true");
            }
        }
    }

    private static void due(String what, String got, String want) {
        if (!got.equals(want)) {
            wrong++;
            System.out.println(what + ": is " + got + ", due is " + want);
        }
    }
}
