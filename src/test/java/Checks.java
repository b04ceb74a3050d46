import java.nio.charset.StandardCharsets;
import java.util.NoSuchElementException;

/** What the project's tests share: counting wrong answers, and telling a desk as a text. */
final class Checks {
    private static int wrong = 0;
    private static int made = 0;

    private Checks() {
    }

    static void due(String call, long got, long want) {
        made++;
        if (got != want) {
            wrong++;
            if (wrong <= 40) {
                System.out.println(call + " answered " + got + ", due is " + want);
            }
        }
    }

    static void due(String call, boolean got, boolean want) {
        due(call, got ? 1 : 0, want ? 1 : 0);
    }

    /** The call that was just made was refused by this number. */
    static void refused(String call, TermDesk desk, int got, int number) {
        due(call, got, TermDesk.NONE);
        due(call + ": trouble", desk.trouble(), number);
    }

    /** The call that was just made was not refused. */
    static void answered(String call, TermDesk desk, int got, int want) {
        due(call, got, want);
        due(call + ": trouble", desk.trouble(), 0);
    }

    static void end(String name) {
        System.out.println(name + ": " + made + " answers, " + wrong + " not as due");
        if (wrong != 0 || made == 0) {
            System.exit(1);
        }
    }

    static void feed(TermDesk desk, byte[] bytes) {
        byte[] whole = new byte[(bytes.length + 19) / 20 * 20];
        java.util.Arrays.fill(whole, (byte) ' ');
        System.arraycopy(bytes, 0, whole, 0, bytes.length);
        for (int at = 0; at < whole.length; at += 20) {
            desk.feed(four(whole, at), four(whole, at + 4), four(whole, at + 8), four(whole, at + 12),
                four(whole, at + 16));
        }
    }

    static int four(byte[] bytes, int at) {
        return bytes[at] << 24 | (bytes[at + 1] & 255) << 16 | (bytes[at + 2] & 255) << 8 | bytes[at + 3] & 255;
    }

    static int tell(TermDesk desk, String text) {
        byte[] bytes = text.getBytes(StandardCharsets.ISO_8859_1);
        feed(desk, bytes);
        return desk.desk(bytes.length);
    }

    static TermDesk told(String text) {
        TermDesk desk = new TermDesk();
        if (tell(desk, text) < 0) {
            due("the text " + text, desk.fault(), 0);
        }
        return desk;
    }

    /** Register r is this polynomial, told as in a poly LINE ("" is ZERO). */
    static void is(String call, TermDesk desk, int r, String poly) {
        StringBuilder got = new StringBuilder();
        for (int k = 0; k < desk.terms(r); k++) {
            got.append(k == 0 ? "" : " + ").append(desk.term(r, k, 0));
            for (int u = 0; u < 3; u++) {
                int exponent = desk.term(r, k, u + 1);
                if (exponent > 0) {
                    got.append(' ').append("xyz".charAt(u)).append(exponent);
                }
            }
        }
        made++;
        if (!got.toString().equals(poly)) {
            wrong++;
            System.out.println(call + ": register " + r + " is '" + got + "', due is '" + poly + "'");
        }
    }

    static int constantOrNone(TermDesk desk, int i) {
        try {
            return desk.constant(i);
        } catch (NoSuchElementException none) {
            return TermDesk.NONE;
        }
    }
}
