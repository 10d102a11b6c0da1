import java.lang.reflect.Field;
import java.lang.reflect.Member;
import java.lang.reflect.Method;
import java.lang.reflect.Modifier;
import java.util.Set;
import java.util.TreeSet;

/** The public face, and the rules of LANGUAGE.md that the compiled class shows. */
public final class FaceTest {
    private FaceTest() {
    }

    public static void main(String[] args) {
        constants();
        members();
        fields();
        Due.end();
    }

    private static void constants() {
        Due.is("NONE", -1, ReplayDesk.NONE);
        Due.is("FULL", -2, ReplayDesk.FULL);
        Due.is("LOST", 0, ReplayDesk.LOST);
        Due.is("STOPPED", 1, ReplayDesk.STOPPED);
        Due.is("ASKING", 2, ReplayDesk.ASKING);
        Due.is("TIRED", 3, ReplayDesk.TIRED);
    }

    private static void members() {
        Set<String> due = new TreeSet<>(Set.of(
            "public static final int ReplayDesk.NONE", "public static final int ReplayDesk.FULL",
            "public static final int ReplayDesk.LOST", "public static final int ReplayDesk.STOPPED",
            "public static final int ReplayDesk.ASKING", "public static final int ReplayDesk.TIRED",
            "public ReplayDesk()", "public int ReplayDesk.emit(int,int,int)",
            "public void ReplayDesk.forgetAll()", "public void ReplayDesk.clear()",
            "public int ReplayDesk.start()", "public int ReplayDesk.answer(int,int)",
            "public int ReplayDesk.goOn(int)", "public boolean ReplayDesk.forget(int)",
            "public int ReplayDesk.moments()", "public int ReplayDesk.kind(int)",
            "public int ReplayDesk.position(int)", "public int ReplayDesk.peek(int,int)",
            "public int ReplayDesk.said(int)", "public int ReplayDesk.lastSaid(int,int)",
            "public int ReplayDesk.difference(int,int)"));
        Set<String> seen = new TreeSet<>();
        addVisible(seen, ReplayDesk.class.getDeclaredFields());
        addVisible(seen, ReplayDesk.class.getDeclaredMethods());
        addVisible(seen, ReplayDesk.class.getDeclaredConstructors());
        if (!seen.equals(due)) {
            System.out.println("face seen: " + seen);
        }
        Due.is("the face is the document's", true, seen.equals(due));
        Due.is("the class is public and final", Modifier.PUBLIC | Modifier.FINAL, ReplayDesk.class.getModifiers());
        Due.is("nested classes", 0, ReplayDesk.class.getDeclaredClasses().length);
        privateNames();
    }

    private static void addVisible(Set<String> seen, Member[] members) {
        for (Member member : members) {
            if (!Modifier.isPrivate(member.getModifiers())) {
                seen.add(member.toString());
            }
        }
    }

    private static void privateNames() {
        Set<String> open = new TreeSet<>();
        for (Method method : ReplayDesk.class.getMethods()) {
            open.add(method.getName());
        }
        for (Method method : ReplayDesk.class.getDeclaredMethods()) {
            if (Modifier.isPrivate(method.getModifiers())) {
                Due.is("private " + method.getName() + " bears a public name", false, open.contains(method.getName()));
                Due.is("parameters of " + method.getName(), true, method.getParameterCount() <= 7);
            }
        }
    }

    private static void fields() {
        int beside = 0;
        for (Field field : ReplayDesk.class.getDeclaredFields()) {
            Class<?> type = field.getType();
            if (Modifier.isStatic(field.getModifiers())) {
                Due.is("constant " + field.getName(), true, type == int.class || type == long.class);
                Due.is("final " + field.getName(), true, Modifier.isFinal(field.getModifiers()));
            } else {
                beside++;
                Class<?> held = type.isArray() ? type.getComponentType() : type;
                boolean whole = held.isPrimitive() && held != float.class && held != double.class;
                Due.is("type of " + field.getName(), true, whole);
            }
        }
        Due.is("some forty fields at most", true, beside <= 40);
    }
}
