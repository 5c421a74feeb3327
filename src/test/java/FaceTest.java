import java.lang.reflect.Constructor;
import java.lang.reflect.Field;
import java.lang.reflect.Method;
import java.lang.reflect.Modifier;
import java.util.Set;
import java.util.TreeSet;

/** The public face is that of the document, and nothing else can be seen from outside. */
public final class FaceTest {
    private static final String[] FACE = {
        "int feed(int,int,int,int,int)", "int load(int)!I", "int errorPosition()", "int count(int)",
        "int person(int,int)!N", "int union(int,int)!N", "int children(int)!N", "int ancestors(int)!N",
        "int descendants(int)!N", "long kinship(int,int)!N", "int distance(int,int)!N", "int linesTo(int,int)!N",
        "int nearestAncestor(int,int)!N", "int collapse(int,int)!NI", "int boxes(int)!N", "int box(int,int,int)!N",
        "int place(int)!N", "int crossings()", "int crossingsOf(int,boolean)!N", "int crossingsIf(int,int,int)!N",
        "int width()", "int format(int,int,int)!NI", "int formattedByte(int)", "int strips(int)!I",
        "int cutBoxes(int)!I", "float repeated()", "double inbreeding()", "int marry(int,int,int)!NI",
        "int adopt(int,int)!N", "int release(int)!N", "int swap(int,int,int)!N", "int improve(int)!I",
        "int arrange()", "void plain()", "int undoCount()", "int undo()", "void saveSnapshot()",
        "boolean restoreSnapshot()", "int query(int)!I"};

    private static String told(Method method) {
        StringBuilder text = new StringBuilder();
        text.append(method.getReturnType()).append(' ').append(method.getName()).append('(');
        for (int i = 0; i < method.getParameterTypes().length; i++) {
            text.append(i == 0 ? "" : ",").append(method.getParameterTypes()[i]);
        }
        text.append(')');
        for (int i = 0; i < method.getExceptionTypes().length; i++) {
            text.append(i == 0 ? "!" : "").append(method.getExceptionTypes()[i].getSimpleName().charAt(0));
        }
        return text.toString();
    }

    public static void main(String[] args) {
        Set<String> names = new TreeSet<>();
        Set<String> seen = new TreeSet<>();
        for (Method method : FamilyChart.class.getDeclaredMethods()) {
            if (Modifier.isPublic(method.getModifiers())) {
                names.add(method.getName());
                seen.add(told(method));
            }
        }
        Checks.due("the public methods", String.join("\n", seen), String.join("\n", new TreeSet<>(Set.of(FACE))));
        for (Method method : FamilyChart.class.getDeclaredMethods()) {
            if (!Modifier.isPublic(method.getModifiers())) {
                Checks.due(method + " is private", Modifier.isPrivate(method.getModifiers()) ? 1 : 0, 1);
                Checks.due(method + " has a name of its own", names.contains(method.getName()) ? 1 : 0, 0);
            }
        }
        Set<String> constants = new TreeSet<>();
        for (Field field : FamilyChart.class.getDeclaredFields()) {
            if (Modifier.isPublic(field.getModifiers())) {
                constants.add(field.getName());
            } else {
                Checks.due(field + " is private", Modifier.isPrivate(field.getModifiers()) ? 1 : 0, 1);
            }
        }
        Checks.due("the constants", constants.toString(), "[HIDDEN, NONE]");
        Constructor<?>[] constructors = FamilyChart.class.getDeclaredConstructors();
        Checks.due("constructors", constructors.length, 1);
        Checks.due("the constructor is public", constructors[0].getModifiers(), Modifier.PUBLIC);
        Checks.due("the class is public and final", FamilyChart.class.getModifiers(),
                Modifier.PUBLIC | Modifier.FINAL);
        for (Class<?> inner : FamilyChart.class.getDeclaredClasses()) {
            Checks.due(inner + " is static", Modifier.isStatic(inner.getModifiers()) ? 1 : 0, 1);
            Checks.due(inner + " is hidden", inner.getModifiers() & (Modifier.PUBLIC | Modifier.PROTECTED), 0);
        }
        Checks.end("FaceTest");
    }
}
