import java.lang.reflect.InvocationTargetException;
import java.lang.reflect.Method;
import java.nio.charset.StandardCharsets;
import java.util.Arrays;
import java.util.Comparator;
import java.util.NoSuchElementException;

/** What the project's tests share: counting wrong answers, and telling a desk as a text. */
final class Checks {
    private static int wrong = 0;
    private static int made = 0;
    private static String test = "";

    private Checks() {
    }

    /**
     * Runs all tests of a class, its methods named promiseNN and what is tested, the first and the
     * last NN being told: each promise between them has one, and none is of another promise.
     */
    static void promises(Class<?> tests, int first, int last) {
        boolean[] seen = new boolean[100];
        Method[] methods = tests.getDeclaredMethods();
        Arrays.sort(methods, Comparator.comparing(Method::getName));
        for (Method method : methods) {
            if (method.getName().startsWith("promise")) {
                due(method.getName() + " has its number", method.getName().matches("promise[0-9]{2}[A-Z]\\w*"), true);
                seen[Integer.parseInt(method.getName().substring(7, 9))] = true;
                test = method.getName() + ": ";
                int before = made;
                run(method);
                due("how many answers are looked at is more than 0", made > before, true);
            }
        }
        test = "";
        for (int n = 0; n < 100; n++) {
            due(tests.getName() + " has a test of promise " + n, seen[n], n >= first && n <= last);
        }
        end(tests.getName());
    }

    private static void run(Method method) {
        try {
            method.setAccessible(true);
            method.invoke(null);
        } catch (InvocationTargetException | IllegalAccessException thrown) {
            thrown.printStackTrace(System.out);
            due("it threw", true, false);
        }
    }

    static void due(String call, long got, long want) {
        made++;
        if (got != want) {
            wrong++;
            if (wrong <= 40) {
                System.out.println(test + call + " answered " + got + ", due is " + want);
            }
        }
    }

    static void due(String call, boolean got, boolean want) {
        due(call, got ? 1 : 0, want ? 1 : 0);
    }

    /** The call that was just made, no matter what it answered, told this TROUBLE. */
    static void trouble(String call, TermDesk desk, int number) {
        due(call + ": trouble", desk.trouble(), number);
    }

    /** The call that was just made was refused by this number. */
    static void refused(String call, TermDesk desk, int got, int number) {
        due(call, got, TermDesk.NONE);
        due(call + ": trouble", desk.trouble(), number);
    }

    /** The call that was just made was not refused. */
    static void answered(String call, TermDesk desk, int got, int want) {
        due(call, got, want);
        due(call + ": trouble", desk.trouble(), 0);
    }

    static void end(String name) {
        System.out.println(name + ": " + made + " answers, " + wrong + " not as due");
        if (wrong != 0 || made == 0) {
            System.exit(1);
        }
    }

    static void feed(TermDesk desk, byte[] bytes) {
        byte[] whole = new byte[(bytes.length + 19) / 20 * 20];
        Arrays.fill(whole, (byte) ' ');
        System.arraycopy(bytes, 0, whole, 0, bytes.length);
        for (int at = 0; at < whole.length; at += 20) {
            desk.feed(four(whole, at), four(whole, at + 4), four(whole, at + 8), four(whole, at + 12),
                four(whole, at + 16));
        }
    }

    static int four(byte[] bytes, int at) {
        return bytes[at] << 24 | (bytes[at + 1] & 255) << 16 | (bytes[at + 2] & 255) << 8 | bytes[at + 3] & 255;
    }

    static int tell(TermDesk desk, String text) {
        byte[] bytes = text.getBytes(StandardCharsets.ISO_8859_1);
        feed(desk, bytes);
        return desk.desk(bytes.length);
    }

    static TermDesk told(String text) {
        TermDesk desk = new TermDesk();
        if (tell(desk, text) < 0) {
            due("the text " + text, desk.fault(), 0);
        }
        return desk;
    }

    /** Register r is this polynomial, told as in a poly LINE ("" is ZERO). */
    static void is(String call, TermDesk desk, int r, String poly) {
        StringBuilder got = new StringBuilder();
        for (int k = 0; k < desk.terms(r); k++) {
            got.append(k == 0 ? "" : " + ").append(desk.term(r, k, 0));
            for (int u = 0; u < 3; u++) {
                int exponent = desk.term(r, k, u + 1);
                if (exponent > 0) {
                    got.append(' ').append("xyz".charAt(u)).append(exponent);
                }
            }
        }
        made++;
        if (!got.toString().equals(poly)) {
            wrong++;
            System.out.println(test + call + ": register " + r + " is '" + got + "', due is '" + poly + "'");
        }
    }

    static int constantOrNone(TermDesk desk, int i) {
        try {
            return desk.constant(i);
        } catch (NoSuchElementException none) {
            return TermDesk.NONE;
        }
    }
}
