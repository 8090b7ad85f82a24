import java.lang.reflect.Constructor;
import java.lang.reflect.Field;
import java.lang.reflect.Member;
import java.lang.reflect.Method;
import java.lang.reflect.Modifier;
import java.util.Arrays;
import java.util.Set;
import java.util.TreeSet;

/** The public face: every constant, constructor and method of the document, and nothing else that is not private. */
public final class FaceTest {
    private static final Set<String> FACE = new TreeSet<>(Arrays.asList(
        "public static final int NONE", "public static final int CONFLICT",
        "public TransactionCaches()",
        "public int begin(int)", "public int read(int,int)", "public int sees(int,int)",
        "public int write(int,int,int)", "public int add(int,int,int)", "public int end(int)",
        "public int giveUp(int)", "public int giveAllUp(int)", "public int level(int)",
        "public int committed(int)", "public int readBy(int)", "public int writtenBy(int)",
        "public int rivals(int,int,int)", "public int digest()"));

    private static void keep(Set<String> found, Member member, String text) {
        if (!Modifier.isPrivate(member.getModifiers()) && !member.isSynthetic()) {
            found.add(text.replace("TransactionCaches.", ""));
        }
    }

    public static void main(String[] args) {
        Due due = new Due();
        due.part("face");
        Class<?> type = TransactionCaches.class;
        Set<String> found = new TreeSet<>();
        Set<String> publicNames = new TreeSet<>();
        for (Field f : type.getDeclaredFields()) {
            keep(found, f, f.toString());
        }
        for (Constructor<?> k : type.getDeclaredConstructors()) {
            keep(found, k, k.toString());
        }
        for (Method m : type.getDeclaredMethods()) {
            keep(found, m, m.toString());
            if (Modifier.isPublic(m.getModifiers())) {
                publicNames.add(m.getName());
            }
        }
        for (Method m : type.getDeclaredMethods()) {
            if (Modifier.isPrivate(m.getModifiers())) {
                due.is("private " + m.getName() + " bears a public name", publicNames.contains(m.getName()) ? 1 : 0, 0);
            }
        }
        for (String member : FACE) {
            due.is("has " + member, found.contains(member) ? 1 : 0, 1);
        }
        for (String member : found) {
            due.is("may have " + member, FACE.contains(member) ? 1 : 0, 1);
        }
        due.is("class is public and final", type.getModifiers(), Modifier.PUBLIC | Modifier.FINAL);
        due.is("nested classes", type.getDeclaredClasses().length, 0);
        due.is("NONE", TransactionCaches.NONE, -1);
        due.is("CONFLICT", TransactionCaches.CONFLICT, -2);
        due.finish();
    }
}
