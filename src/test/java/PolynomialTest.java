/** Promises 7 to 16: terms, term, degree, degreeIn, coefficient, value, roots, same, ahead, leadBy. */
public final class PolynomialTest {
    private static final int MIN = Integer.MIN_VALUE;
    private static final int MAX = Integer.MAX_VALUE;

    public static void main(String[] args) {
        termsAndTerm();
        degrees();
        coefficients();
        values();
        roots();
        sames();
        aheads();
        everyOrder();
        leads();
        Checks.end("PolynomialTest");
    }

    private static void termsAndTerm() {
        TermDesk desk = Checks.told("ring prime 7 order lex x y z;poly 5 z 9 + 3 x y 2 - x 2;poly 7");
        Checks.answered("terms", desk, desk.terms(0), 3);
        Checks.answered("terms of ZERO", desk, desk.terms(1), 0);
        Checks.answered("terms of one not told", desk, desk.terms(7), 0);
        for (int r : new int[] {-1, 8, MIN, MAX}) {
            Checks.refused("terms " + r, desk, desk.terms(r), 1);
            Checks.refused("term " + r, desk, desk.term(r, 0, 0), 1);
        }
        int[][] due = {{6, 2, 0, 0, 2}, {3, 1, 2, 0, 3}, {5, 0, 0, 9, 9}};
        for (int k = 0; k < 3; k++) {
            for (int what = 0; what < 5; what++) {
                Checks.answered("term " + k + " " + what, desk, desk.term(0, k, what), due[k][what]);
            }
        }
        for (int n : new int[] {-1, 3, MIN, MAX}) {
            Checks.refused("term k " + n, desk, desk.term(0, n, 0), 1);
        }
        for (int n : new int[] {-1, 5, MIN, MAX}) {
            Checks.refused("term what " + n, desk, desk.term(0, 0, n), 1);
        }
        Checks.refused("term of ZERO", desk, desk.term(1, 0, 0), 1);
        desk.order(1, 0, 1);
        Checks.is("by deg", desk, 0, "5 z9 + 3 x1 y2 + 6 x2");
    }

    private static void degrees() {
        TermDesk desk = Checks.told("ring prime 7 order lex x y z;poly x 2 + x y 14 z 15 + z;poly 3");
        Checks.answered("degree", desk, desk.degree(0), 30);
        Checks.answered("degree of a number", desk, desk.degree(1), 0);
        Checks.answered("degree of ZERO", desk, desk.degree(2), -2);
        Checks.refused("degree", desk, desk.degree(8), 1);
        Checks.answered("degreeIn x", desk, desk.degreeIn(0, 0), 2);
        Checks.answered("degreeIn y", desk, desk.degreeIn(0, 1), 14);
        Checks.answered("degreeIn z", desk, desk.degreeIn(0, 2), 15);
        Checks.answered("degreeIn of a number", desk, desk.degreeIn(1, 2), 0);
        Checks.answered("degreeIn of ZERO", desk, desk.degreeIn(2, 2), -2);
        Checks.refused("degreeIn 3", desk, desk.degreeIn(0, 3), 1);
        Checks.refused("degreeIn -1", desk, desk.degreeIn(0, -1), 1);
        Checks.refused("degreeIn of none", desk, desk.degreeIn(-1, 0), 1);
    }

    private static void coefficients() {
        TermDesk desk = Checks.told("ring prime 7 order rev y z x;poly 2 x 15 y z 2 - 4");
        Checks.answered("coefficient", desk, desk.coefficient(0, 15, 1, 2), 2);
        Checks.answered("coefficient", desk, desk.coefficient(0, 0, 0, 0), 3);
        Checks.answered("coefficient", desk, desk.coefficient(0, 1, 1, 1), 0);
        Checks.answered("coefficient", desk, desk.coefficient(7, 15, 15, 15), 0);
        Checks.refused("coefficient", desk, desk.coefficient(0, 16, 0, 0), 2);
        Checks.refused("coefficient", desk, desk.coefficient(0, 0, -1, 0), 2);
        Checks.refused("coefficient", desk, desk.coefficient(0, 0, 0, 16), 2);
        Checks.refused("coefficient: 1 ahead of 2", desk, desk.coefficient(8, 16, 0, 0), 1);
    }

    private static void values() {
        TermDesk desk = Checks.told("ring prime 97 order lex x y z;poly 2 x 15 y 3 + z - 5;poly 96");
        int power = java.math.BigInteger.valueOf(96).pow(15).mod(java.math.BigInteger.valueOf(97)).intValue();
        Checks.answered("value", desk, desk.value(0, 96, 2, 3), Math.floorMod(2 * power * 8 + 3 - 5, 97));
        Checks.answered("value", desk, desk.value(0, 0, 0, 0), 92);
        Checks.answered("value of a number", desk, desk.value(1, 0, 0, 96), 96);
        Checks.answered("value of ZERO", desk, desk.value(2, 1, 1, 1), 0);
        Checks.refused("value", desk, desk.value(0, 97, 0, 0), 2);
        Checks.refused("value", desk, desk.value(1, 0, 97, 0), 2);
        Checks.refused("value", desk, desk.value(1, 0, 0, -1), 2);
        Checks.refused("value: 1 ahead of 2", desk, desk.value(-1, 97, 0, 0), 1);
    }

    private static void roots() {
        TermDesk desk = Checks.told("ring prime 97 order lex x y z;poly x y - 1;poly z 2 - 4;poly x + y + z;poly 5;poly y z");
        Checks.answered("roots of x y - 1", desk, desk.roots(0), 96);
        Checks.answered("roots of z 2 - 4", desk, desk.roots(1), 2);
        Checks.refused("roots by 912673 choices", desk, desk.roots(2), 5);
        Checks.answered("roots of a number", desk, desk.roots(3), 0);
        Checks.answered("roots of y z", desk, desk.roots(4), 193);
        Checks.answered("roots of ZERO", desk, desk.roots(5), 1);
        Checks.refused("roots", desk, desk.roots(8), 1);
        desk = Checks.told("ring prime 19 order lex x y z;poly x + y + z;poly x z");
        Checks.answered("roots by 6859 choices", desk, desk.roots(0), 361);
        Checks.answered("roots of x z", desk, desk.roots(1), 37);
        desk = Checks.told("ring prime 23 order lex x y z;poly x + y + z");
        Checks.refused("roots by 12167 choices", desk, desk.roots(0), 5);
        desk = Checks.told("ring prime 2 order lex x y z;poly x 15 + x 3;poly x y z + 1");
        Checks.answered("roots where all are", desk, desk.roots(0), 2);
        Checks.answered("roots of x y z + 1", desk, desk.roots(1), 1);
    }

    private static void sames() {
        TermDesk desk = Checks.told("ring prime 5 order lex x y z;poly x + 1;poly 1 + x;poly x + 2;poly y + 1;poly x");
        Checks.answered("same", desk, desk.same(0, 1), 1);
        Checks.answered("same: a coefficient", desk, desk.same(0, 2), 0);
        Checks.answered("same: exponents", desk, desk.same(0, 3), 0);
        Checks.answered("same: fewer", desk, desk.same(0, 4), 0);
        Checks.answered("same: ZERO", desk, desk.same(6, 7), 1);
        Checks.refused("same", desk, desk.same(0, 8), 1);
        Checks.refused("same", desk, desk.same(-1, 0), 1);
    }

    private static void aheads() {
        TermDesk desk = Checks.told("ring prime 5 order lex y z x");
        Checks.answered("lex: first", desk, desk.ahead(0, 2, 0, 15, 1, 15), 1);
        Checks.answered("lex: second", desk, desk.ahead(15, 2, 0, 0, 2, 1), -1);
        Checks.answered("lex: third", desk, desk.ahead(4, 2, 1, 3, 2, 1), 1);
        Checks.answered("lex: alike", desk, desk.ahead(4, 2, 1, 4, 2, 1), 0);
        desk = Checks.told("ring prime 5 order deg y z x");
        Checks.answered("deg: degree", desk, desk.ahead(3, 0, 0, 0, 2, 0), 1);
        Checks.answered("deg: first", desk, desk.ahead(0, 2, 0, 1, 1, 0), 1);
        Checks.answered("deg: second", desk, desk.ahead(1, 1, 0, 0, 1, 1), -1);
        desk = Checks.told("ring prime 5 order rev y z x");
        Checks.answered("rev: degree", desk, desk.ahead(3, 0, 0, 0, 2, 0), 1);
        Checks.answered("rev: less of third", desk, desk.ahead(1, 2, 0, 0, 0, 3), -1);
        Checks.answered("rev: less of second", desk, desk.ahead(1, 1, 1, 1, 2, 0), -1);
        Checks.answered("rev: alike", desk, desk.ahead(15, 15, 15, 15, 15, 15), 0);
        int[][] wrong = {{16, 0, 0, 0, 0, 0}, {0, -1, 0, 0, 0, 0}, {0, 0, 16, 0, 0, 0}, {0, 0, 0, -1, 0, 0},
            {0, 0, 0, 0, 16, 0}, {0, 0, 0, 0, 0, MAX}};
        for (int[] w : wrong) {
            Checks.due("ahead: wrong", desk.ahead(w[0], w[1], w[2], w[3], w[4], w[5]), -2);
            Checks.due("ahead: trouble", desk.trouble(), 2);
        }
    }

    /** In each ORDER many TERMS beside others, by the words of the document alone. */
    private static void everyOrder() {
        java.util.Random random = new java.util.Random(7);
        String[] hows = {"lex", "deg", "rev"};
        String[] unknowns = {"x y z", "x z y", "y x z", "y z x", "z x y", "z y x"};
        for (int how = 0; how < 3; how++) {
            for (String all : unknowns) {
                TermDesk desk = Checks.told("ring prime 5 order " + hows[how] + " " + all);
                for (int i = 0; i < 20000; i++) {
                    int[] a = {random.nextInt(16), random.nextInt(16), random.nextInt(16)};
                    int[] b = {random.nextInt(16), random.nextInt(16), random.nextInt(16)};
                    int same = random.nextInt(4);
                    b[2] = same == 0 ? Math.floorMod(a[0] + a[1] + a[2] - b[0] - b[1], 16) : b[2];
                    b[random.nextInt(3)] = same == 1 ? a[0] : b[0];
                    Checks.due("ahead by " + hows[how] + " " + all, desk.ahead(a[0], a[1], a[2], b[0], b[1], b[2]),
                        by(how, all, a, b));
                }
            }
        }
    }

    private static int by(int how, String all, int[] a, int[] b) {
        int first = all.charAt(0) - 'x';
        int second = all.charAt(2) - 'x';
        int third = all.charAt(4) - 'x';
        int degree = Integer.compare(a[0] + a[1] + a[2], b[0] + b[1] + b[2]);
        if (how > 0 && degree != 0) {
            return degree;
        }
        if (how == 2) {
            int less = Integer.compare(b[third], a[third]);
            return less != 0 ? less : Integer.compare(b[second], a[second]);
        }
        for (int u : new int[] {first, second, third}) {
            if (a[u] != b[u]) {
                return a[u] > b[u] ? 1 : -1;
            }
        }
        return 0;
    }

    private static void leads() {
        TermDesk desk = Checks.told("ring prime 5 order lex x y z;poly x 2 + x y z 2 + y 4 + z 3");
        Checks.answered("leadBy lex y", desk, desk.leadBy(0, 0, 1, 0), 64);
        Checks.answered("leadBy lex z", desk, desk.leadBy(0, 0, 2, 0), 768);
        Checks.answered("leadBy deg x", desk, desk.leadBy(0, 1, 0, 1), 1 + 16 + 512);
        Checks.answered("leadBy rev x y", desk, desk.leadBy(0, 2, 0, 1), 64);
        Checks.answered("leadBy rev z x", desk, desk.leadBy(0, 2, 2, 0), 1 + 16 + 512);
        Checks.answered("leadBy of ZERO", desk, desk.leadBy(1, 0, 0, 1), -2);
        Checks.refused("leadBy of none", desk, desk.leadBy(8, 3, 0, 1), 1);
        int[][] wrong = {{3, 0, 1}, {-1, 0, 1}, {0, 3, 1}, {0, -1, 1}, {0, 0, 3}, {0, 0, -1}, {0, 2, 2}};
        for (int[] w : wrong) {
            Checks.refused("leadBy: wrong", desk, desk.leadBy(0, w[0], w[1], w[2]), 2);
            Checks.refused("leadBy of ZERO: wrong", desk, desk.leadBy(1, w[0], w[1], w[2]), 2);
        }
        Checks.due("the order stays", desk.about(1), 0);
    }
}
