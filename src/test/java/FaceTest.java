import java.lang.reflect.Constructor;
import java.lang.reflect.Field;
import java.lang.reflect.Method;
import java.lang.reflect.Modifier;
import java.util.Set;
import java.util.TreeSet;

/** The public face is that of the document, and nothing else is to be seen. */
public final class FaceTest {
    private static final String[] FACE = {
        "feed 5", "desk 1", "fault 0", "where 0", "about 1", "terms 1", "term 3", "degree 1", "degreeIn 2",
        "coefficient 4", "value 4", "roots 1", "same 2", "ahead 6", "leadBy 4", "divided 3", "divides 2",
        "missing 1", "add 3", "less 3", "times 3", "scale 6", "monic 2", "derive 3", "put 4", "swap 4",
        "rest 3", "quotient 4", "pair 3", "common 3", "content 2", "primitive 2", "complete 1", "order 3",
        "undo 0", "constant 1", "size 1", "trouble 0"
    };

    public static void main(String[] args) {
        Checks.due("the class is public and final", TermDesk.class.getModifiers() & 17, 17);
        Set<String> face = new TreeSet<>(Set.of(FACE));
        Set<String> names = new TreeSet<>();
        for (String method : FACE) {
            names.add(method.substring(0, method.indexOf(' ')));
        }
        int seen = 0;
        for (Method method : TermDesk.class.getDeclaredMethods()) {
            if (method.isSynthetic()) {
                continue;
            }
            boolean hidden = Modifier.isPrivate(method.getModifiers());
            Checks.due(method + " is private or of the face", hidden,
                !face.contains(method.getName() + " " + method.getParameterCount()));
            if (hidden) {
                Checks.due(method + " has no public name", names.contains(method.getName()), false);
                continue;
            }
            seen++;
            Class<?> answer = method.getName().equals("undo") ? boolean.class : int.class;
            Checks.due(method + " answers " + answer, method.getReturnType() == answer, true);
            for (Class<?> type : method.getParameterTypes()) {
                Checks.due(method + " takes int", type == int.class, true);
            }
        }
        Checks.due("methods of the face", seen, FACE.length);
        for (Field field : TermDesk.class.getDeclaredFields()) {
            boolean hidden = Modifier.isPrivate(field.getModifiers());
            Checks.due(field + " is private or NONE", hidden, !field.getName().equals("NONE"));
        }
        fewFields(TermDesk.class);
        for (Class<?> inside : TermDesk.class.getDeclaredClasses()) {
            fewFields(inside);
            Checks.due(inside + " is static", Modifier.isStatic(inside.getModifiers()), true);
            for (Method method : inside.getDeclaredMethods()) {
                Checks.due(method + " has no public name", names.contains(method.getName()), false);
            }
        }
        for (Constructor<?> constructor : TermDesk.class.getDeclaredConstructors()) {
            Checks.due(constructor + " takes nothing", constructor.getParameterCount(), 0);
        }
        Checks.due("NONE", TermDesk.NONE, -1);
        Checks.end("FaceTest");
    }

    private static void fewFields(Class<?> type) {
        int fields = 0;
        for (Field field : type.getDeclaredFields()) {
            fields += Modifier.isStatic(field.getModifiers()) ? 0 : 1;
        }
        Checks.due(type + " has at most 20 fields beside its constants", fields <= 20, true);
    }
}
