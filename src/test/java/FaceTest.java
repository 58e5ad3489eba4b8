import java.lang.reflect.Constructor;
import java.lang.reflect.Field;
import java.lang.reflect.Method;
import java.lang.reflect.Modifier;
import java.util.Arrays;
import java.util.TreeSet;

/** The public face is the document's, and nothing else of the class can be seen. */
public final class FaceTest {
    private static final String[] FACE = {"feed 5", "text 1", "query 1", "fault 1", "named 2", "rule 2", "code 3",
        "skip 2", "asked 1", "take 1", "put 1", "fits 2", "found 2", "finding 2", "filled 3", "meeting 2", "above 1",
        "shadowed 0", "joined 3", "overlaps 2", "shared 2", "critical 4", "criticals 0", "depth 1", "specific 1",
        "branch 2", "tops 0", "beside 3", "steps 1", "normal 1", "apart 1", "width 1", "order 1", "chance 2", "draw 1",
        "tried 3", "undo 0", "keep 0", "back 0", "count 1"};

    public static void main(String[] args) {
        TreeSet<String> want = new TreeSet<>(Arrays.asList(FACE));
        TreeSet<String> names = new TreeSet<>();
        for (String method : FACE) {
            names.add(method.substring(0, method.indexOf(' ')));
        }
        for (Method method : TermShelf.class.getDeclaredMethods()) {
            boolean isPublic = Modifier.isPublic(method.getModifiers());
            boolean isPrivate = Modifier.isPrivate(method.getModifiers());
            Due.due("public or private: " + method, isPublic || isPrivate ? 1 : 0, 1);
            if (isPublic) {
                Due.due("in the face: " + method, want.remove(method.getName() + " " + method.getParameterCount()) ? 1 : 0, 1);
                Due.due("answers an int: " + method, method.getReturnType() == int.class ? 1 : 0, 1);
            } else {
                Due.due("named as none of the face: " + method, names.contains(method.getName()) ? 1 : 0, 0);
            }
        }
        Due.due("all of the face: " + want, want.size(), 0);
        for (Field field : TermShelf.class.getDeclaredFields()) {
            boolean isNone = field.getName().equals("NONE") && Modifier.isPublic(field.getModifiers());
            Due.due("private: " + field, isNone || Modifier.isPrivate(field.getModifiers()) ? 1 : 0, 1);
            boolean isMutable = Modifier.isStatic(field.getModifiers()) && !Modifier.isFinal(field.getModifiers());
            Due.due("no static state: " + field, isMutable ? 1 : 0, 0);
        }
        for (Constructor<?> constructor : TermShelf.class.getDeclaredConstructors()) {
            Due.due("without arguments: " + constructor, constructor.getParameterCount(), 0);
        }
        Due.due("final", Modifier.isFinal(TermShelf.class.getModifiers()) ? 1 : 0, 1);
        Due.end("FaceTest");
    }
}
