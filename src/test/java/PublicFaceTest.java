import java.lang.reflect.Constructor;
import java.lang.reflect.Field;
import java.lang.reflect.Method;
import java.lang.reflect.Modifier;
import java.util.Arrays;
import java.util.List;
import java.util.TreeSet;

/** The class shows what the document's face shows, and nothing else. */
public final class PublicFaceTest {
    public static void main(String[] args) {
        TreeSet<String> due = new TreeSet<>(List.of(
            "public static final int BAD", "public static final int FULL", "public static final int REFUSED",
            "public SurfaceMesh()",
            "public int splitFace(int, int, int)", "public int splitEdge(int, int)",
            "public int flip(int, int)", "public int collapse(int, int)",
            "public int vertices()", "public int faces()", "public boolean isFace(int, int, int)",
            "public int joined(int)", "public int opposite(int, int)", "public int around(int, int, int)",
            "public int distance(int, int)", "public int ofDegree(int)",
            "public int flippable()", "public int collapsible()"));
        TreeSet<String> shown = shown();
        boolean kept = due.equals(shown) && Modifier.toString(SurfaceMesh.class.getModifiers()).equals("public final")
            && SurfaceMesh.class.getDeclaredClasses().length == 0;
        System.out.println(kept ? "the face is as due" : "the face is " + shown + ", due is " + due);
        if (!kept) {
            System.exit(1);
        }
    }

    private static TreeSet<String> shown() {
        TreeSet<String> shown = new TreeSet<>();
        for (Field f : SurfaceMesh.class.getDeclaredFields()) {
            if (!Modifier.isPrivate(f.getModifiers())) {
                shown.add(Modifier.toString(f.getModifiers()) + " " + f.getType() + " " + f.getName());
            }
        }
        for (Constructor<?> c : SurfaceMesh.class.getDeclaredConstructors()) {
            shown.add(Modifier.toString(c.getModifiers()) + " SurfaceMesh" + list(c.getParameterTypes()));
        }
        for (Method m : SurfaceMesh.class.getDeclaredMethods()) {
            if (!Modifier.isPrivate(m.getModifiers())) {
                shown.add(Modifier.toString(m.getModifiers()) + " " + m.getReturnType() + " " + m.getName()
                    + list(m.getParameterTypes()));
            }
        }
        return shown;
    }

    private static String list(Class<?>[] types) {
        String text = Arrays.toString(types);
        return "(" + text.substring(1, text.length() - 1) + ")";
    }
}
