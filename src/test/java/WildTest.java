import java.lang.reflect.InvocationTargetException;
import java.lang.reflect.Method;
import java.util.Arrays;
import java.util.Comparator;
import java.util.NoSuchElementException;
import java.util.Random;

/** Any arguments in any state: no call throws but constant, and that only what the document names. */
public final class WildTest {
    private static final int[] WILD = {Integer.MIN_VALUE, -256, -17, -2, -1, 0, 0, 1, 1, 2, 2, 3, 4, 5, 6, 7, 7, 8, 15, 16,
        20, 31, 32, 96, 97, 255, 256, 257, 700, 701, Integer.MAX_VALUE};
    private static final String[] TEXTS = {
        "ring prime 2 order lex x y z;poly x15y15 + x14y14 + x + y + 1;poly x14y + x y14;poly z15;poly x;poly y2;poly 1",
        "ring prime 97 order rev z y x;poly 96x15y3 + 5 x2 + 7;poly y9 + 3 x4y - 1;poly x - y;poly y - z;poly z x y",
        "ring prime 3 order deg y x z"
    };

    public static void main(String[] args) throws IllegalAccessException {
        Method[] methods = TermDesk.class.getMethods();
        methods = Arrays.stream(methods).filter(m -> m.getDeclaringClass() == TermDesk.class)
            .sorted(Comparator.comparing(Method::getName)).toArray(Method[]::new);
        Random random = new Random(3);
        for (int run = 0; run < 400; run++) {
            TermDesk desk = new TermDesk();
            if (run % 4 > 0) {
                Checks.tell(desk, TEXTS[run % 4 - 1]);
            }
            for (int call = 0; call < 480; call++) {
                Method method = methods[random.nextInt(methods.length)];
                Object[] values = new Object[method.getParameterCount()];
                for (int i = 0; i < values.length; i++) {
                    values[i] = random.nextInt(3) > 0 ? random.nextInt(8) : WILD[random.nextInt(WILD.length)];
                }
                if (method.getName().equals("desk") && random.nextInt(30) > 0) {
                    continue;
                }
                Checks.due("run " + run + " " + method.getName() + Arrays.toString(values), fine(desk, method, values), true);
            }
        }
        Checks.end("WildTest");
    }

    private static boolean fine(TermDesk desk, Method method, Object[] values) throws IllegalAccessException {
        try {
            method.invoke(desk, values);
            return true;
        } catch (InvocationTargetException thrown) {
            return method.getName().equals("constant") && thrown.getCause() instanceof NoSuchElementException;
        }
    }
}
