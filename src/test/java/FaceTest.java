import java.lang.reflect.Constructor;
import java.lang.reflect.Field;
import java.lang.reflect.Method;
import java.lang.reflect.Modifier;
import java.util.Set;
import java.util.TreeSet;

/** The class has the public face of the document, and no other member that can be seen. */
public final class FaceTest {
    private static final Set<String> FACE = Set.of(
        "public static final int ProcessEquiv.NONE",
        "public ProcessEquiv()",
        "public boolean ProcessEquiv.join(int,int,int)",
        "public boolean ProcessEquiv.cut(int,int,int)",
        "public int ProcessEquiv.steps()",
        "public int ProcessEquiv.after(int,int)",
        "public boolean ProcessEquiv.alike(int,int)",
        "public int ProcessEquiv.group(int)",
        "public int ProcessEquiv.groups()",
        "public int ProcessEquiv.toldAfter(int,int)",
        "public int ProcessEquiv.rounds()",
        "public boolean ProcessEquiv.looselyAlike(int,int)",
        "public int ProcessEquiv.looseGroups()",
        "public boolean ProcessEquiv.follows(int,int)",
        "public int ProcessEquiv.followers(int)",
        "public int ProcessEquiv.silently(int)",
        "public boolean ProcessEquiv.idle(int,int,int)");

    public static void main(String[] args) {
        Set<String> seen = new TreeSet<>();
        Class<?> face = ProcessEquiv.class;
        for (Field f : face.getDeclaredFields()) {
            if (!Modifier.isPrivate(f.getModifiers())) {
                seen.add(f.toString());
            }
        }
        for (Constructor<?> c : face.getDeclaredConstructors()) {
            if (!Modifier.isPrivate(c.getModifiers())) {
                seen.add(c.toString());
            }
        }
        for (Method m : face.getDeclaredMethods()) {
            if (!Modifier.isPrivate(m.getModifiers())) {
                seen.add(m.toString());
            }
        }
        boolean good = seen.equals(FACE)
            && Modifier.isPublic(face.getModifiers())
            && Modifier.isFinal(face.getModifiers())
            && face.getDeclaredClasses().length == 0;
        System.out.println(good ? "the face is as due" : "the face is not as due: " + seen);
        if (!good) {
            System.exit(1);
        }
    }
}
