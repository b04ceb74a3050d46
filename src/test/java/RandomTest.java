import java.nio.charset.StandardCharsets;
import java.util.Random;

/** Runs of calls by a fixed seed on the class and on the model of the document, side by side. */
public final class RandomTest {
    private static final int[] PRIMES = {2, 2, 2, 3, 3, 5, 5, 7, 11, 13, 17, 19, 23, 29, 31, 37, 41, 43, 47, 53, 59,
        61, 67, 71, 73, 79, 83, 89, 97};
    private static final String[] WORDS = {"ring", "prime", "order", "lex", "deg", "rev", "poly", "x", "y", "z", ";",
        "+", "-", "0", "1", "7", "15", "16", "97", "98", "9999", "12345", "orders", "xy", " ", "\u00ff", "A", ""};

    private final Random random;
    private final TermDesk desk = new TermDesk();
    private final Model model = new Model();
    private final int style;

    private RandomTest(long seed) {
        random = new Random(seed);
        style = random.nextInt(6);
    }

    public static void main(String[] args) {
        int runs = args.length > 0 ? Integer.parseInt(args[0]) : 1500;
        long from = args.length > 1 ? Long.parseLong(args[1]) : 0;
        for (long seed = from; seed < from + runs; seed++) {
            new RandomTest(seed).run("seed " + seed);
        }
        Checks.end("RandomTest");
    }

    private int under(int n) {
        return random.nextInt(n);
    }

    private boolean oneIn(int n) {
        return under(n) == 0;
    }

    private void run(String name) {
        if (oneIn(10)) {
            calls(name, 20);
        }
        for (int desks = 0; desks < 3; desks++) {
            tell(name, text());
            calls(name, 45);
        }
    }

    // ---- texts

    private String text() {
        StringBuilder text = new StringBuilder();
        int prime = PRIMES[under(PRIMES.length)];
        String[] unknowns = {"x y z", "x z y", "y x z", "y z x", "z x y", "z y x"};
        text.append("ring prime ").append(prime).append(" order ").append(new String[] {"lex", "deg", "rev"}[under(3)]);
        text.append(' ').append(unknowns[under(6)]);
        int polys = 1 + under(6);
        for (int i = 0; i < polys; i++) {
            text.append(";poly ").append(poly());
        }
        String told = text.length() > 700 ? text.substring(0, text.lastIndexOf(";", 700)) : text.toString();
        return oneIn(3) ? spoil(told) : told;
    }

    private String poly() {
        int most = style == 0 ? 15 : style == 1 ? 8 : style == 2 ? 3 : 2;
        boolean plane = style != 5 || oneIn(2);
        StringBuilder text = new StringBuilder(oneIn(4) ? "- " : "");
        int terms = oneIn(10) ? 12 : 1 + under(style == 3 ? 12 : 5);
        for (int t = 0; t < terms; t++) {
            text.append(t == 0 ? "" : oneIn(2) ? " + " : "-");
            boolean any = oneIn(2);
            if (any) {
                text.append(oneIn(9) ? under(10000) : 1 + under(9));
            }
            for (int u = 0; u < (plane ? 2 : 3); u++) {
                int exponent = under(most + 1);
                if (exponent > 0) {
                    text.append(' ').append("xyz".charAt(u)).append(exponent == 1 && oneIn(2) ? "" : "" + exponent);
                    any = true;
                }
            }
            text.append(any ? "" : "1");
        }
        return text.toString();
    }

    private String spoil(String text) {
        StringBuilder spoilt = new StringBuilder(text);
        for (int times = 1 + under(2); times > 0; times--) {
            int at = under(spoilt.length() + 1);
            switch (under(4)) {
                case 0 -> spoilt.insert(at, WORDS[under(WORDS.length)]);
                case 1 -> spoilt.delete(at, Math.min(spoilt.length(), at + 1 + under(4)));
                case 2 -> spoilt.setLength(at);
                default -> spoilt.insert(at, " " + WORDS[under(WORDS.length)] + " ");
            }
        }
        return spoilt.length() > 700 ? spoilt.substring(0, 700) : spoilt.toString();
    }

    private void tell(String name, String text) {
        byte[] bytes = text.getBytes(StandardCharsets.ISO_8859_1);
        byte[] whole = new byte[(bytes.length + 19) / 20 * 20];
        java.util.Arrays.fill(whole, (byte) ' ');
        System.arraycopy(bytes, 0, whole, 0, bytes.length);
        for (int at = 0; at < whole.length; at += 20) {
            int[] f = new int[5];
            for (int i = 0; i < 5; i++) {
                f[i] = Checks.four(whole, at + 4 * i);
            }
            Checks.due(name + " feed", desk.feed(f[0], f[1], f[2], f[3], f[4]),
                model.feed(f[0], f[1], f[2], f[3], f[4]));
        }
        int n = oneIn(20) ? whole.length + 1 : oneIn(8) ? whole.length : bytes.length;
        compare(name + " desk of " + text, desk.desk(n), model.desk(n));
        compareAll(name);
    }

    // ---- calls

    private void calls(String name, int count) {
        for (int i = 0; i < count; i++) {
            call(name + " call " + i);
            if (oneIn(4)) {
                compareAll(name + " behind call " + i);
            }
        }
        compareAll(name);
    }

    private int r() {
        return oneIn(60) ? under(12) - 2 : under(8);
    }

    private int unknown() {
        return oneIn(40) ? under(5) - 1 : under(3);
    }

    private int exponent() {
        return oneIn(40) ? under(20) - 2 : oneIn(4) ? under(16) : under(3);
    }

    private int number() {
        return oneIn(40) ? under(200) - 50 : under(Math.max(2, model.primeNow()));
    }

    private int filled() {
        for (int tries = 0; tries < 20; tries++) {
            int r = under(8);
            if (model.isFilled(r)) {
                return r;
            }
        }
        return r();
    }

    private int set() {
        if (oneIn(30)) {
            return under(400) - 70;
        }
        int set = 0;
        for (int i = 1 + under(4); i > 0; i--) {
            set |= 1 << Math.max(0, filled());
        }
        return set;
    }

    private void compare(String call, int got, int want) {
        Checks.due(call, got, want);
        Checks.due(call + " where", desk.where(), model.where());
        Checks.due(call + " fault", desk.fault(), model.fault());
        Checks.due(call + " trouble", desk.trouble(), model.trouble());
    }

    private void compareAll(String name) {
        for (int what = -1; what < 4; what++) {
            Checks.due(name + " size " + what, desk.size(what), model.size(what));
        }
        for (int what = -1; what < 7; what++) {
            Checks.due(name + " about " + what, desk.about(what), model.about(what));
        }
        for (int r = 0; r < 8; r++) {
            int terms = model.terms(r);
            Checks.due(name + " terms " + r, desk.terms(r), terms);
            for (int k = 0; k < terms; k++) {
                for (int what = 0; what < 4; what++) {
                    Checks.due(name + " term " + r + " " + k + " " + what, desk.term(r, k, what), model.term(r, k, what));
                }
            }
        }
    }

    private void call(String name) {
        int r = oneIn(3) ? r() : filled();
        int q = oneIn(3) ? r() : filled();
        int k = r();
        int u = unknown();
        int which = under(40);
        if (which < 15) {
            ask(name, which, r, q, u);
        } else {
            act(name, which, r, q, k);
        }
    }

    private void ask(String name, int which, int r, int q, int u) {
        int a = exponent();
        int b = exponent();
        int c = exponent();
        switch (which) {
            case 0 -> {
                int t = under(8) - 1;
                int what = under(7) - 1;
                compare(name + " term", desk.term(r, t, what), model.term(r, t, what));
            }
            case 1 -> compare(name + " degree", desk.degree(r), model.degree(r));
            case 2 -> compare(name + " degreeIn", desk.degreeIn(r, u), model.degreeIn(r, u));
            case 3 -> compare(name + " coefficient", desk.coefficient(r, a, b, c), model.coefficient(r, a, b, c));
            case 4 -> {
                int x = number();
                int y = number();
                int z = number();
                compare(name + " value", desk.value(r, x, y, z), model.value(r, x, y, z));
            }
            case 5 -> {
                if (oneIn(4)) {
                    compare(name + " roots " + r, desk.roots(r), model.roots(r));
                }
            }
            case 6 -> compare(name + " same", desk.same(r, q), model.same(r, q));
            case 7, 8 -> {
                int x = exponent();
                int y = exponent();
                int z = exponent();
                compare(name + " ahead", desk.ahead(a, b, c, x, y, z), model.ahead(a, b, c, x, y, z));
            }
            case 9 -> {
                int how = unknown();
                int second = unknown();
                compare(name + " leadBy", desk.leadBy(r, how, u, second), model.leadBy(r, how, u, second));
            }
            case 10, 11, 12 -> {
                int set = set();
                int what = oneIn(20) ? under(7) - 2 : under(4);
                compare(name + " divided", desk.divided(r, set, what), model.divided(r, set, what));
            }
            case 13 -> compare(name + " divides", desk.divides(r, q), model.divides(r, q));
            default -> {
                int set = set();
                compare(name + " missing", desk.missing(set), model.missing(set));
            }
        }
    }

    private void act(String name, int which, int r, int q, int k) {
        int u = unknown();
        switch (which) {
            case 15, 16 -> compare(name + " add", desk.add(r, q, k), model.add(r, q, k));
            case 17, 18 -> compare(name + " less", desk.less(r, q, k), model.less(r, q, k));
            case 19, 20, 21 -> compare(name + " times", desk.times(r, q, k), model.times(r, q, k));
            case 22 -> {
                int c = number();
                int x = exponent();
                int y = exponent();
                int z = oneIn(2) ? 0 : exponent();
                compare(name + " scale", desk.scale(r, c, x, y, z, k), model.scale(r, c, x, y, z, k));
            }
            case 23 -> compare(name + " monic", desk.monic(r, k), model.monic(r, k));
            case 24 -> compare(name + " derive", desk.derive(r, u, k), model.derive(r, u, k));
            case 25 -> {
                int c = number();
                compare(name + " put", desk.put(r, u, c, k), model.put(r, u, c, k));
            }
            case 26 -> {
                int other = unknown();
                compare(name + " swap", desk.swap(r, u, other, k), model.swap(r, u, other, k));
            }
            case 27, 28 -> {
                int set = set();
                compare(name + " rest", desk.rest(r, set, k), model.rest(r, set, k));
            }
            case 29 -> {
                int set = set();
                compare(name + " quotient", desk.quotient(r, set, q, k), model.quotient(r, set, q, k));
            }
            case 30 -> compare(name + " pair", desk.pair(r, q, k), model.pair(r, q, k));
            case 31, 32 -> compare(name + " common " + r + " " + q, desk.common(r, q, k), model.common(r, q, k));
            case 33 -> compare(name + " content", desk.content(r, k), model.content(r, k));
            case 34 -> compare(name + " primitive", desk.primitive(r, k), model.primitive(r, k));
            case 35 -> {
                int set = set();
                compare(name + " complete", desk.complete(set), model.complete(set));
            }
            case 36 -> {
                int how = unknown();
                int second = unknown();
                compare(name + " order", desk.order(how, u, second), model.order(how, u, second));
            }
            case 37 -> compare(name + " undo", desk.undo() ? 1 : 0, model.undo() ? 1 : 0);
            case 38 -> {
                int i = under(4) - 1;
                compare(name + " constant", Checks.constantOrNone(desk, i), model.constant(i));
            }
            default -> compare(name + " same", desk.same(r, k), model.same(r, k));
        }
    }
}
