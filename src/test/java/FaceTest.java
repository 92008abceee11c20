import java.lang.reflect.Constructor;
import java.lang.reflect.Field;
import java.lang.reflect.Method;
import java.lang.reflect.Modifier;
import java.util.Set;
import java.util.TreeSet;

/** The class shows the members of the document's public face, word for word, and no other. */
public final class FaceTest {
    private static final Set<String> FACE = Set.of(
            "public static final int RationalFormulas.BAD_ARG",
            "public static final int RationalFormulas.FULL",
            "public static final int RationalFormulas.TOO_FEW",
            "public static final int RationalFormulas.NONE",
            "public RationalFormulas()",
            "public int RationalFormulas.variable()",
            "public int RationalFormulas.constant(int)",
            "public int RationalFormulas.apply(int)",
            "public int RationalFormulas.power(int)",
            "public int RationalFormulas.derive()",
            "public int RationalFormulas.dup()",
            "public int RationalFormulas.drop()",
            "public int RationalFormulas.swap()",
            "public int RationalFormulas.depth()",
            "public int RationalFormulas.height()",
            "public int RationalFormulas.value(int)",
            "public int RationalFormulas.slope(int)",
            "public boolean RationalFormulas.same()",
            "public int RationalFormulas.degreeAbove()",
            "public int RationalFormulas.degreeBelow()",
            "public int RationalFormulas.coefficient(int,int)",
            "public int RationalFormulas.zeros()",
            "public int RationalFormulas.poles()");

    public static void main(String[] args) {
        Set<String> shown = new TreeSet<>();
        for (Field field : RationalFormulas.class.getDeclaredFields()) {
            add(shown, field.getModifiers(), field.toString());
        }
        for (Constructor<?> constructor : RationalFormulas.class.getDeclaredConstructors()) {
            add(shown, constructor.getModifiers(), constructor.toString());
        }
        for (Method method : RationalFormulas.class.getDeclaredMethods()) {
            add(shown, method.getModifiers(), method.toString());
        }
        int wrong = difference("not shown", FACE, shown) + difference("not in the document", shown, FACE);
        if (RationalFormulas.class.getModifiers() != (Modifier.PUBLIC | Modifier.FINAL)) {
            wrong++;
            System.out.println("the class is not public and final");
        }
        System.out.println(wrong == 0 ? "the face is the document's" : wrong + " faults in the face");
        if (wrong != 0) {
            System.exit(1);
        }
    }

    private static void add(Set<String> shown, int modifiers, String text) {
        if (!Modifier.isPrivate(modifiers)) {
            shown.add(text);
        }
    }

    private static int difference(String what, Set<String> all, Set<String> without) {
        Set<String> rest = new TreeSet<>(all);
        rest.removeAll(without);
        for (String text : rest) {
            System.out.println(what + ": " + text);
        }
        return rest.size();
    }
}
