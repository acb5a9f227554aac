import java.lang.reflect.Constructor;
import java.lang.reflect.Field;
import java.lang.reflect.Method;
import java.lang.reflect.Modifier;
import java.util.Set;
import java.util.TreeSet;

/** The class shows the members of the document's public face, with its types, and no other. */
public final class FaceTest {
    private static int wrong = 0;

    private static void same(String what, Object got, Object want) {
        if (!got.equals(want)) {
            wrong++;
            System.out.println(what + " is " + got + ", due is " + want);
        }
    }

    private static String parameters(Class<?>[] types) {
        StringBuilder text = new StringBuilder("(");
        for (Class<?> type : types) {
            text.append(text.length() > 1 ? ", " : "").append(type.getName());
        }
        return text.append(")").toString();
    }

    private static Set<String> visibleMembers() {
        Set<String> members = new TreeSet<>();
        for (Field f : IncrLiveness.class.getDeclaredFields()) {
            if (!Modifier.isPrivate(f.getModifiers())) {
                members.add(Modifier.toString(f.getModifiers()) + " " + f.getType().getName() + " " + f.getName());
            }
        }
        for (Constructor<?> c : IncrLiveness.class.getDeclaredConstructors()) {
            if (!Modifier.isPrivate(c.getModifiers())) {
                members.add(Modifier.toString(c.getModifiers()) + " IncrLiveness" + parameters(c.getParameterTypes()));
            }
        }
        for (Method m : IncrLiveness.class.getDeclaredMethods()) {
            if (!Modifier.isPrivate(m.getModifiers())) {
                members.add(Modifier.toString(m.getModifiers()) + " " + m.getReturnType().getName() + " "
                        + m.getName() + parameters(m.getParameterTypes()));
            }
        }
        return members;
    }

    public static void main(String[] args) {
        same("the members", visibleMembers(), new TreeSet<>(Set.of(
                "public static final int BAD_ARG",
                "public IncrLiveness()",
                "public int arc(int, int, int)",
                "public boolean hasArc(int, int)",
                "public int use(int, int, int)",
                "public int set(int, int, int)",
                "public int block(int, int, int)",
                "public int cutOff(int)",
                "public int takeOver(int, int)",
                "public int liveIn(int)",
                "public int liveOut(int)",
                "public int liveBlocks(int)",
                "public int idleSets()",
                "public int pressure()",
                "public int reaching(int, int)",
                "public int crowded()")));
        same("the class's modifiers", Modifier.toString(IncrLiveness.class.getModifiers()), "public final");
        same("the superclass", IncrLiveness.class.getSuperclass(), Object.class);
        same("BAD_ARG", IncrLiveness.BAD_ARG, -1);
        System.out.println(wrong == 0 ? "the face is as due" : wrong + " things of the face are not as due");
        if (wrong != 0) {
            System.exit(1);
        }
    }
}
