import java.lang.reflect.Constructor;
import java.lang.reflect.Field;
import java.lang.reflect.Method;
import java.lang.reflect.Modifier;
import java.util.Set;
import java.util.TreeSet;

// The class shows the document's public face and nothing else.
public final class FaceTest {
    private static final Set<String> FACE = Set.of(
        "public static final int BAD_ARG", "public static final int CLOSED", "public static final int NONE",
        "public static final int BUSY", "public static final int STALE", "public static final int FULL",
        "public MvccHeap()",
        "public int open(int)", "public int put(int,int,int)", "public int add(int,int,int)",
        "public int drop(int,int)", "public int get(int,int)", "public boolean has(int,int)",
        "public int count(int)", "public int sum(int)", "public int find(int,int,int)", "public int changed(int)",
        "public int save(int)", "public int back(int)", "public int commit(int)", "public int abort(int)",
        "public int crash()", "public int committed(int)", "public int rows()",
        "public void vacuum()", "public void flush()");

    public static void main(String[] args) {
        Set<String> shown = new TreeSet<>();
        for (Field field : MvccHeap.class.getDeclaredFields()) {
            note(shown, field.getModifiers(), field.toString());
        }
        for (Method method : MvccHeap.class.getDeclaredMethods()) {
            note(shown, method.getModifiers(), method.toString());
        }
        for (Constructor<?> constructor : MvccHeap.class.getDeclaredConstructors()) {
            note(shown, constructor.getModifiers(), constructor.toString());
        }
        boolean isFinal = Modifier.isFinal(MvccHeap.class.getModifiers());
        if (!shown.equals(FACE) || !isFinal) {
            System.out.println("the class shows " + shown + ", due is " + new TreeSet<>(FACE) + ", final: " + isFinal);
            System.exit(1);
        }
        System.out.println("the face is as due");
    }

    private static void note(Set<String> shown, int modifiers, String member) {
        if (!Modifier.isPrivate(modifiers)) {
            shown.add(member.replace("MvccHeap.", ""));
        }
    }
}
