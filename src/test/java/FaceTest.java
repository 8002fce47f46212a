import java.lang.reflect.Constructor;
import java.lang.reflect.Field;
import java.lang.reflect.Method;
import java.lang.reflect.Modifier;
import java.util.Set;
import java.util.TreeSet;

/** The class has the face that the document shows, and no other. */
public final class FaceTest {
    public static void main(String[] args) {
        Set<String> face = new TreeSet<>();
        for (Constructor<?> c : PipelineBelt.class.getDeclaredConstructors()) {
            addUnlessPrivate(face, c.getModifiers(), c.toString());
        }
        for (Method m : PipelineBelt.class.getDeclaredMethods()) {
            addUnlessPrivate(face, m.getModifiers(), m.toString());
        }
        for (Field f : PipelineBelt.class.getDeclaredFields()) {
            addUnlessPrivate(face, f.getModifiers(), f.toString());
        }
        Set<String> due = new TreeSet<>(Set.of(
            "public PipelineBelt()",
            "public int PipelineBelt.feed(int,int,int,int,int)",
            "public int PipelineBelt.put(int,int)",
            "public int PipelineBelt.stage(int)",
            "public int PipelineBelt.many(int,int)",
            "public int PipelineBelt.size(int,int)",
            "public int PipelineBelt.byteAt(int,int,int)",
            "public int PipelineBelt.clear(int)",
            "public void PipelineBelt.swap()"));
        boolean right = face.equals(due) && Modifier.isFinal(PipelineBelt.class.getModifiers());
        System.out.println(right ? "the face is as due" : "the face is " + face);
        if (!right) {
            System.exit(1);
        }
    }

    private static void addUnlessPrivate(Set<String> face, int modifiers, String text) {
        if (!Modifier.isPrivate(modifiers)) {
            face.add(text);
        }
    }
}
