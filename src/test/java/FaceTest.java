import java.lang.reflect.Constructor;
import java.lang.reflect.Field;
import java.lang.reflect.Method;
import java.lang.reflect.Modifier;
import java.util.Set;
import java.util.TreeSet;

// The class shows the document's face and nothing else.
public final class FaceTest {
    private static final String[] FACE = {
        "BAD_ARG", "FULL", "NONE",
        "ConstructiveDesk()",
        "atom(int)", "falsum()", "join(int,int,int)", "drop()", "size()",
        "follows(int,int)", "all(int)", "classically(int,int)", "alike(int,int)", "enough(int,int)",
        "saturated(int)", "worlds()", "against(int,int)", "closedSets()"
    };

    public static void main(String[] args) {
        Set<String> seen = new TreeSet<>();
        boolean plain = true;
        for (Field f : ConstructiveDesk.class.getDeclaredFields()) {
            if (!Modifier.isPrivate(f.getModifiers())) {
                seen.add(f.getName());
                plain &= f.getType() == int.class && f.getModifiers() == (Modifier.PUBLIC | Modifier.STATIC | Modifier.FINAL);
            }
        }
        for (Constructor<?> c : ConstructiveDesk.class.getDeclaredConstructors()) {
            seen.add("ConstructiveDesk" + list(c.getParameterTypes()));
            plain &= c.getModifiers() == Modifier.PUBLIC;
        }
        for (Method m : ConstructiveDesk.class.getDeclaredMethods()) {
            if (!Modifier.isPrivate(m.getModifiers())) {
                seen.add(m.getName() + list(m.getParameterTypes()));
                plain &= m.getReturnType() == int.class && m.getModifiers() == Modifier.PUBLIC;
            }
        }
        plain &= ConstructiveDesk.class.getModifiers() == (Modifier.PUBLIC | Modifier.FINAL);
        Set<String> due = new TreeSet<>(Set.of(FACE));
        if (!plain || !seen.equals(due)) {
            System.out.println("the face is " + seen + (plain ? "" : ", with a wrong type or modifier") + ", due is " + due);
            System.exit(1);
        }
        System.out.println("the face is as due");
    }

    private static String list(Class<?>[] types) {
        StringBuilder text = new StringBuilder("(");
        for (int i = 0; i < types.length; i++) {
            text.append(i == 0 ? "" : ",").append(types[i].getName());
        }
        return text.append(")").toString();
    }
}
