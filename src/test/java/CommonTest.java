import java.util.Random;
import java.util.TreeMap;

/** Promises 31 to 33: common, content, primitive. */
public final class CommonTest {
    private static final int[] PRIMES = {2, 3, 5, 7, 11, 13, 17, 19, 23, 29, 31, 37, 41, 43, 47, 53, 59, 61, 67, 71, 73,
        79, 83, 89, 97};

    /** By x and y, modulo 2: coprime, but with a divisor in common at the first places of y. */
    private static final int[][] UNLUCKY_ONE = {{11, 0}, {1, 1}, {5, 4}, {7, 2}, {1, 4}, {1, 3}, {8, 0}, {4, 7}, {9, 1},
        {0, 3}, {5, 7}, {0, 0}, {2, 2}, {4, 3}, {4, 0}, {3, 2}, {7, 6}, {7, 3}, {0, 2}, {0, 6}, {2, 7}, {8, 1}, {3, 4},
        {4, 4}, {6, 6}, {3, 1}, {5, 6}, {4, 6}, {6, 4}, {8, 4}, {8, 3}, {0, 5}};
    private static final int[][] UNLUCKY_TWO = {{10, 0}, {2, 6}, {6, 3}, {5, 5}, {6, 7}, {9, 7}, {5, 3}, {3, 4}, {4, 4},
        {7, 0}, {5, 6}, {1, 3}, {1, 6}, {7, 7}, {5, 0}, {8, 5}, {3, 1}, {9, 6}, {4, 5}, {2, 3}, {9, 5}, {2, 1}, {4, 6},
        {5, 1}, {3, 5}, {6, 1}, {2, 7}, {5, 4}, {2, 0}, {8, 3}, {2, 2}, {3, 2}};

    public static void main(String[] args) {
        commons();
        contents();
        refusals();
        noRoom();
        unlucky();
        everyPrime();
        Checks.end("CommonTest");
    }

    private static void commons() {
        TermDesk desk = Checks.told("ring prime 7 order lex x y z;poly 2 x2 - 2 y2;poly 3 x2 + 6 x y + 3 y2;poly 5;poly x3;poly y2;poly 4 x y");
        Checks.answered("common", desk, desk.common(0, 1, 7), 2);
        Checks.is("common", desk, 7, "1 x1 + 1 y1");
        Checks.answered("common the other way", desk, desk.common(1, 0, 7), 2);
        Checks.is("common the other way", desk, 7, "1 x1 + 1 y1");
        Checks.answered("common with a number", desk, desk.common(0, 2, 7), 1);
        Checks.is("common with a number", desk, 7, "1");
        Checks.answered("common of powers of x", desk, desk.common(3, 5, 7), 1);
        Checks.is("common of powers of x", desk, 7, "1 x1");
        Checks.answered("common of powers of y", desk, desk.common(4, 5, 7), 1);
        Checks.is("common of powers of y", desk, 7, "1 y1");
        Checks.answered("common of unlike ones", desk, desk.common(3, 4, 7), 1);
        Checks.is("common of unlike ones", desk, 7, "1");
        Checks.answered("common with ZERO", desk, desk.common(6, 1, 7), 3);
        Checks.is("common with ZERO", desk, 7, "1 x2 + 2 x1 y1 + 1 y2");
        Checks.answered("common of two ZERO", desk, desk.common(6, 6, 7), 0);
        Checks.answered("common with itself, in itself", desk, desk.common(0, 0, 0), 2);
        Checks.is("common with itself, in itself", desk, 0, "1 x2 + 6 y2");
        desk.order(0, 1, 0);
        Checks.answered("by another order", desk, desk.common(0, 0, 0), 2);
        Checks.is("by another order", desk, 0, "1 y2 + 6 x2");
        desk = Checks.told("ring prime 3 order lex x y z;poly x3 - y3;poly x - y;poly x2 + x y + y2");
        Checks.answered("a cube", desk, desk.common(0, 1, 7), 2);
        Checks.answered("a square in a cube", desk, desk.common(0, 2, 7), 3);
    }

    private static void contents() {
        TermDesk desk = Checks.told("ring prime 5 order rev z x y;poly 3 x2y2 - 3 x2 + 2 x y + 2 x;poly 3 y2 - 3;poly 2 x3;poly 4");
        Checks.answered("content", desk, desk.content(0, 7), 2);
        Checks.is("content", desk, 7, "1 y1 + 1");
        Checks.answered("primitive", desk, desk.primitive(0, 6), 3);
        Checks.is("primitive", desk, 6, "3 x2 y1 + 2 x2 + 2 x1");
        desk.times(6, 7, 7);
        Checks.due("content times primitive", desk.same(7, 0), 1);
        Checks.answered("content in y alone", desk, desk.content(1, 7), 2);
        Checks.is("content in y alone", desk, 7, "1 y2 + 4");
        Checks.answered("primitive in y alone", desk, desk.primitive(1, 7), 1);
        Checks.is("primitive in y alone", desk, 7, "3");
        Checks.answered("content of x3", desk, desk.content(2, 7), 1);
        Checks.is("content of x3", desk, 7, "1");
        Checks.answered("primitive of x3", desk, desk.primitive(2, 7), 1);
        Checks.is("primitive of x3", desk, 7, "2 x3");
        Checks.answered("content of a number", desk, desk.content(3, 7), 1);
        Checks.is("content of a number", desk, 7, "1");
        Checks.answered("primitive of a number", desk, desk.primitive(3, 3), 1);
        Checks.is("primitive of a number", desk, 3, "4");
        Checks.answered("content of ZERO", desk, desk.content(5, 7), 0);
        Checks.answered("primitive of ZERO", desk, desk.primitive(5, 7), 0);
    }

    private static void refusals() {
        TermDesk desk = Checks.told("ring prime 5 order lex x y z;poly x + z;poly x y");
        Checks.refused("common r", desk, desk.common(8, 0, 7), 1);
        Checks.refused("common q", desk, desk.common(1, -1, 7), 1);
        Checks.refused("common k", desk, desk.common(0, 0, 8), 1);
        Checks.refused("common: z", desk, desk.common(0, 1, 7), 5);
        Checks.refused("common: z", desk, desk.common(1, 0, 7), 5);
        Checks.refused("common: z, with ZERO", desk, desk.common(6, 0, 7), 5);
        Checks.refused("content r", desk, desk.content(-1, 7), 1);
        Checks.refused("content k", desk, desk.content(0, 8), 1);
        Checks.refused("content: z", desk, desk.content(0, 7), 5);
        Checks.refused("primitive r", desk, desk.primitive(8, 7), 1);
        Checks.refused("primitive k", desk, desk.primitive(0, -1), 1);
        Checks.refused("primitive: z", desk, desk.primitive(0, 7), 5);
        Checks.due("no act", desk.size(1), 0);
    }

    /** Few terms whose divisor in common, or primitive part, has many. */
    private static void noRoom() {
        TermDesk desk = Checks.told("ring prime 7 order deg y x z;poly x15y15 - x15 - y15 + 1;poly 1");
        int[][] edge = new int[58][];
        int at = 0;
        for (int i = 0; i < 15; i++) {
            edge[at++] = new int[] {15, i + 1, 1};
            edge[at++] = new int[] {0, i, 6};
            if (i < 14) {
                edge[at++] = new int[] {i + 1, 15, 1};
                edge[at++] = new int[] {i + 1, 0, 6};
            }
        }
        build(desk, 1, 2, edge);
        Checks.due("58 terms", desk.terms(2), 58);
        Checks.refused("225 terms in common", desk, desk.common(0, 2, 7), 3);
        Checks.is("nothing laid", desk, 7, "");
        int[][] rows = new int[32][];
        for (int i = 0; i < 16; i++) {
            rows[2 * i] = new int[] {i, 15, 1};
            rows[2 * i + 1] = new int[] {i, 0, 6};
        }
        build(desk, 1, 3, rows);
        Checks.answered("content of 32 terms", desk, desk.content(3, 7), 2);
        Checks.answered("primitive of 32 terms", desk, desk.primitive(3, 7), 16);
        rows[0] = new int[] {0, 1, 1};
        build(desk, 1, 3, rows);
        Checks.answered("content y - 1", desk, desk.content(3, 7), 2);
        Checks.refused("primitive part of 226 terms", desk, desk.primitive(3, 7), 3);
    }

    private static void unlucky() {
        TermDesk desk = Checks.told("ring prime 2 order lex x y z;poly x + y;poly 1");
        build(desk, 1, 2, UNLUCKY_ONE);
        build(desk, 1, 3, UNLUCKY_TWO);
        Checks.answered("common of unlucky ones", desk, desk.common(2, 3, 4), 1);
        Checks.is("common of unlucky ones", desk, 4, "1");
        Checks.due("times x + y", desk.times(2, 0, 2) > 0 && desk.times(3, 0, 3) > 0, true);
        Checks.answered("common of unlucky ones", desk, desk.common(2, 3, 4), 2);
        Checks.due("common of unlucky ones", desk.same(4, 0), 1);
    }

    /** Lays a polynomial of any terms in a register, by those of the one that is 1. */
    private static void build(TermDesk desk, int one, int k, int[][] terms) {
        desk.less(k, k, k);
        for (int[] t : terms) {
            desk.scale(one, t.length > 2 ? t[2] : 1, t[0], t[1], 0, 7);
            desk.add(k, 7, k);
        }
        desk.less(7, 7, 7);
    }

    private static void everyPrime() {
        Random random = new Random(11);
        for (int i = 0; i < 1200; i++) {
            int prime = i % 2 == 0 ? PRIMES[i / 2 % PRIMES.length] : PRIMES[random.nextInt(3)];
            String how = new String[] {"lex x y z", "deg y z x", "rev z x y"}[random.nextInt(3)];
            int x = random.nextInt(9);
            int y = random.nextInt(9);
            String text = "ring prime " + prime + " order " + how + ";poly " + any(random, prime, x, y) + ";poly "
                + any(random, prime, 15 - x, 15 - y) + ";poly " + any(random, prime, 15 - x, 15 - y);
            TermDesk desk = Checks.told(text);
            Model model = new Model();
            byte[] bytes = java.util.Arrays.copyOf(text.getBytes(), 700);
            for (int at = 0; at < 700; at += 20) {
                model.feed(Checks.four(bytes, at), Checks.four(bytes, at + 4), Checks.four(bytes, at + 8),
                    Checks.four(bytes, at + 12), Checks.four(bytes, at + 16));
            }
            model.desk(text.length());
            Checks.due(text, desk.times(0, 1, 3), model.times(0, 1, 3));
            Checks.due(text, desk.times(0, 2, 4), model.times(0, 2, 4));
            Checks.due("common of " + text, desk.common(3, 4, 5), model.common(3, 4, 5));
            Checks.due("content of " + text, desk.content(3, 6), model.content(3, 6));
            Checks.due("primitive of " + text, desk.primitive(4, 7), model.primitive(4, 7));
            for (int r = 5; r < 8; r++) {
                for (int k = 0; k < model.terms(r); k++) {
                    for (int what = 0; what < 3; what++) {
                        Checks.due("register " + r + " of " + text, desk.term(r, k, what), model.term(r, k, what));
                    }
                }
            }
        }
    }

    private static String any(Random random, int prime, int x, int y) {
        TreeMap<String, Integer> terms = new TreeMap<>();
        for (int n = 1 + random.nextInt(7); n > 0; n--) {
            int i = random.nextInt(x + 1);
            int j = random.nextInt(y + 1);
            terms.put((i > 0 ? " x" + i : "") + (j > 0 ? " y" + j : ""), 1 + random.nextInt(prime - 1));
        }
        StringBuilder text = new StringBuilder();
        terms.forEach((powers, c) -> text.append(text.length() > 0 ? " + " : "").append(c).append(powers));
        return text.toString();
    }
}
