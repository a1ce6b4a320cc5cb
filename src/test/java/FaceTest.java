import java.lang.reflect.Constructor;
import java.lang.reflect.Field;
import java.lang.reflect.Method;
import java.lang.reflect.Modifier;
import java.util.Set;
import java.util.TreeSet;

// The class has the document's constants, constructor and methods, and shows nothing else.
public final class FaceTest {
    private static final Set<String> FACE = Set.of(
        "public static final int GridPolygons.BAD_ARG",
        "public static final int GridPolygons.FULL",
        "public static final int GridPolygons.NONE",
        "public GridPolygons()",
        "public int GridPolygons.corner(int)",
        "public int GridPolygons.insert(int,int)",
        "public int GridPolygons.remove(int)",
        "public void GridPolygons.clear()",
        "public int GridPolygons.corners()",
        "public int GridPolygons.move(int,int)",
        "public int GridPolygons.reverse()",
        "public int GridPolygons.keep(int,int)",
        "public boolean GridPolygons.proper()",
        "public int GridPolygons.area()",
        "public boolean GridPolygons.left()",
        "public int GridPolygons.edge()",
        "public int GridPolygons.inside()",
        "public int GridPolygons.where(int)",
        "public boolean GridPolygons.convex()",
        "public boolean GridPolygons.cut(int,int)",
        "public int GridPolygons.cuts()",
        "public int GridPolygons.tilings()",
        "public int GridPolygons.hull()",
        "public int GridPolygons.hullArea()",
        "public int GridPolygons.widest()");

    private static int wrong = 0;

    private static void fault(String text) {
        wrong++;
        System.out.println(text);
    }

    private static Set<String> shown() {
        Set<String> shown = new TreeSet<>();
        for (Field field : GridPolygons.class.getDeclaredFields()) {
            if (!Modifier.isPrivate(field.getModifiers())) {
                shown.add(field.toString());
            }
        }
        for (Constructor<?> constructor : GridPolygons.class.getDeclaredConstructors()) {
            shown.add(constructor.toString());
        }
        for (Method method : GridPolygons.class.getDeclaredMethods()) {
            if (!Modifier.isPrivate(method.getModifiers())) {
                shown.add(method.toString());
            }
        }
        return shown;
    }

    private static void privateNamesDiffer() {
        for (Method method : GridPolygons.class.getDeclaredMethods()) {
            boolean isTaken = FACE.stream().anyMatch(line -> line.contains("." + method.getName() + "("));
            if (Modifier.isPrivate(method.getModifiers()) && isTaken) {
                fault("a private method bears the name of a public one: " + method);
            }
        }
    }

    public static void main(String[] args) {
        Set<String> shown = shown();
        FACE.stream().filter(line -> !shown.contains(line)).forEach(line -> fault("missing: " + line));
        shown.stream().filter(line -> !FACE.contains(line)).forEach(line -> fault("not in the document: " + line));
        if (!Modifier.isFinal(GridPolygons.class.getModifiers())) {
            fault("the class is not final");
        }
        privateNamesDiffer();
        System.out.println(wrong == 0 ? "the face is the document's" : wrong + " faults in the face");
        if (wrong != 0) {
            System.exit(1);
        }
    }
}
