import java.util.Random;

/** Promises 7 to 16: terms, term, degree, degreeIn, coefficient, value, roots, same, ahead, leadBy. */
public final class Promises07To16Test {
    private static final int MIN = Integer.MIN_VALUE;
    private static final int MAX = Integer.MAX_VALUE;
    private static final int[] NO_REGISTERS = {-1, 8, 255, MIN, MAX};
    private static final int[] NO_UNKNOWNS = {-1, 3, MIN, MAX};
    private static final int[] NO_EXPONENTS = {-1, 16, 31, 32, MIN, MAX};
    private static final int[][] NO_ORDERS = {{3, 0, 1}, {-1, 0, 1}, {MAX, 0, 1}, {0, 3, 1}, {0, -1, 1}, {0, MIN, 1},
        {0, 0, 3}, {0, 0, -1}, {0, 0, MAX}, {0, 0, 0}, {1, 1, 1}, {2, 2, 2}, {0, 3, 3}, {0, -1, -1}};
    private static final String SIXTY = "ring prime 7 order lex x y z;poly x9+x8+x7+x6+x5+x4+x3+x2+x+1;poly y5+y4+y3+y2+y+1";

    public static void main(String[] args) {
        Checks.promises(Promises07To16Test.class, 7, 16);
    }

    // ---- 7: terms

    private static void promise07HowManyTerms() {
        TermDesk desk = Checks.told("ring prime 7 order lex x y z;poly 5 z 9 + 3 x y 2 - x 2;poly 7;poly 3");
        Checks.answered("three", desk, desk.terms(0), 3);
        Checks.answered("ZERO", desk, desk.terms(1), 0);
        Checks.answered("a number", desk, desk.terms(2), 1);
        Checks.answered("one not told", desk, desk.terms(7), 0);
    }

    private static void promise07SixtyTerms() {
        TermDesk desk = Checks.told(SIXTY);
        desk.times(0, 1, 7);
        Checks.answered("60", desk, desk.terms(7), 60);
    }

    private static void promise07NoSuchRegister() {
        TermDesk desk = Checks.told("ring prime 7 order lex x y z;poly x");
        for (int r : NO_REGISTERS) {
            Checks.refused("terms " + r, desk, desk.terms(r), 1);
        }
    }

    // ---- 8: term

    private static void promise08EachWhatOfEachTerm() {
        TermDesk desk = Checks.told("ring prime 7 order lex x y z;poly 5 z 9 + 3 x y 2 - x 2");
        int[][] due = {{6, 2, 0, 0, 2}, {3, 1, 2, 0, 3}, {5, 0, 0, 9, 9}};
        for (int k = 0; k < 3; k++) {
            for (int what = 0; what < 5; what++) {
                Checks.answered("term " + k + " " + what, desk, desk.term(0, k, what), due[k][what]);
            }
        }
    }

    private static void promise08NoSuchTerm() {
        TermDesk desk = Checks.told("ring prime 7 order lex x y z;poly 5 z 9 + 3 x y 2 - x 2;poly 7");
        for (int k : new int[] {-1, 3, 59, 60, MIN, MAX}) {
            Checks.refused("term " + k, desk, desk.term(0, k, 0), 1);
        }
        Checks.refused("term 0 of ZERO", desk, desk.term(1, 0, 0), 1);
        desk.less(0, 0, 0);
        Checks.refused("term 0 of what has become ZERO", desk, desk.term(0, 0, 0), 1);
    }

    private static void promise08NoSuchWhat() {
        TermDesk desk = Checks.told("ring prime 7 order lex x y z;poly x");
        for (int what : new int[] {-1, 5, MIN, MAX}) {
            Checks.refused("what " + what, desk, desk.term(0, 0, what), 1);
        }
    }

    private static void promise08NoSuchRegister() {
        TermDesk desk = Checks.told("ring prime 7 order lex x y z;poly x");
        for (int r : NO_REGISTERS) {
            Checks.refused("term of " + r, desk, desk.term(r, 0, 0), 1);
        }
    }

    private static void promise08TheLastOfSixty() {
        TermDesk desk = Checks.told(SIXTY);
        desk.times(0, 1, 7);
        Checks.answered("the first", desk, desk.term(7, 0, 4), 14);
        Checks.answered("the last", desk, desk.term(7, 59, 4), 0);
        Checks.refused("behind it", desk, desk.term(7, 60, 4), 1);
    }

    private static void promise08ByTheOrderAsItIsNow() {
        TermDesk desk = Checks.told("ring prime 7 order lex x y z;poly 5 z 9 + 3 x y 2 - x 2");
        desk.order(1, 0, 1);
        Checks.is("by deg", desk, 0, "5 z9 + 3 x1 y2 + 6 x2");
        desk.order(0, 1, 0);
        Checks.is("by lex y x z", desk, 0, "3 x1 y2 + 6 x2 + 5 z9");
    }

    private static void promise08TheGreatestDegree() {
        TermDesk desk = Checks.told("ring prime 7 order lex x y z;poly x15y15z15");
        for (int what = 1; what < 4; what++) {
            Checks.answered("exponent", desk, desk.term(0, 0, what), 15);
        }
        Checks.answered("degree", desk, desk.term(0, 0, 4), 45);
    }

    // ---- 9, 10: degree, degreeIn

    private static void promise09DegreeNotOfTheLead() {
        TermDesk desk = Checks.told("ring prime 7 order lex x y z;poly x 2 + x y 14 z 15 + z;poly x15y15z15;poly 3");
        Checks.answered("of a term behind LEAD", desk, desk.degree(0), 30);
        Checks.answered("the greatest", desk, desk.degree(1), 45);
        Checks.answered("of a number", desk, desk.degree(2), 0);
    }

    private static void promise09OfZero() {
        TermDesk desk = Checks.told("ring prime 7 order lex x y z;poly 7 x");
        Checks.answered("told", desk, desk.degree(0), -2);
        Checks.answered("not told", desk, desk.degree(7), -2);
    }

    private static void promise09NoSuchRegister() {
        TermDesk desk = Checks.told("ring prime 7 order lex x y z;poly x");
        for (int r : NO_REGISTERS) {
            Checks.refused("degree " + r, desk, desk.degree(r), 1);
        }
    }

    private static void promise10OfEachUnknown() {
        TermDesk desk = Checks.told("ring prime 7 order lex x y z;poly x 2 + x y 14 z 15 + z;poly 3;poly x");
        int[] due = {2, 14, 15};
        for (int u = 0; u < 3; u++) {
            Checks.answered("degreeIn " + u, desk, desk.degreeIn(0, u), due[u]);
            Checks.answered("of a number", desk, desk.degreeIn(1, u), 0);
            Checks.answered("of x", desk, desk.degreeIn(2, u), u == 0 ? 1 : 0);
        }
    }

    private static void promise10OfZero() {
        TermDesk desk = Checks.told("ring prime 7 order lex x y z");
        for (int u = 0; u < 3; u++) {
            Checks.answered("degreeIn " + u, desk, desk.degreeIn(5, u), -2);
        }
    }

    private static void promise10NoSuchUnknown() {
        TermDesk desk = Checks.told("ring prime 7 order lex x y z;poly x");
        for (int u : NO_UNKNOWNS) {
            Checks.refused("unknown " + u, desk, desk.degreeIn(0, u), 1);
            Checks.refused("unknown " + u + " of ZERO", desk, desk.degreeIn(1, u), 1);
        }
    }

    private static void promise10NoSuchRegister() {
        TermDesk desk = Checks.told("ring prime 7 order lex x y z;poly x");
        for (int r : NO_REGISTERS) {
            Checks.refused("register " + r, desk, desk.degreeIn(r, 0), 1);
        }
    }

    // ---- 11: coefficient

    private static void promise11OfTheTermWithTheseExponents() {
        TermDesk desk = Checks.told("ring prime 7 order rev y z x;poly 2 x 15 y z 2 - 4;poly 5 x15y15z15");
        Checks.answered("2", desk, desk.coefficient(0, 15, 1, 2), 2);
        Checks.answered("- 4", desk, desk.coefficient(0, 0, 0, 0), 3);
        Checks.answered("5", desk, desk.coefficient(1, 15, 15, 15), 5);
    }

    private static void promise11ThereIsNone() {
        TermDesk desk = Checks.told("ring prime 7 order lex x y z;poly 2 x 15 y z 2 - 4");
        Checks.answered("none", desk, desk.coefficient(0, 1, 1, 1), 0);
        Checks.answered("none, the greatest", desk, desk.coefficient(0, 15, 15, 15), 0);
        Checks.answered("of ZERO", desk, desk.coefficient(7, 0, 0, 0), 0);
    }

    private static void promise11OneThatWasThere() {
        TermDesk desk = Checks.told("ring prime 7 order lex x y z;poly x + y + 1;poly y + 1;poly x + y");
        desk.less(0, 1, 0);
        Checks.is("x is left", desk, 0, "1 x1");
        Checks.answered("of y", desk, desk.coefficient(0, 0, 1, 0), 0);
        Checks.answered("of 1", desk, desk.coefficient(0, 0, 0, 0), 0);
    }

    private static void promise11NoneOfSixty() {
        TermDesk desk = Checks.told(SIXTY);
        desk.times(0, 1, 7);
        Checks.answered("the last", desk, desk.coefficient(7, 0, 0, 0), 1);
        Checks.answered("none", desk, desk.coefficient(7, 0, 0, 1), 0);
    }

    private static void promise11ExponentsFrom0To15() {
        TermDesk desk = Checks.told("ring prime 7 order lex x y z;poly x");
        for (int e : NO_EXPONENTS) {
            Checks.refused("of x " + e, desk, desk.coefficient(0, e, 0, 0), 2);
            Checks.refused("of y " + e, desk, desk.coefficient(0, 0, e, 0), 2);
            Checks.refused("of z " + e, desk, desk.coefficient(0, 0, 0, e), 2);
        }
    }

    private static void promise11NoSuchRegister() {
        TermDesk desk = Checks.told("ring prime 7 order lex x y z;poly x");
        for (int r : NO_REGISTERS) {
            Checks.refused("register " + r, desk, desk.coefficient(r, 0, 0, 0), 1);
            Checks.refused("1 ahead of 2", desk, desk.coefficient(r, 16, -1, 0), 1);
        }
    }

    // ---- 12: value

    private static void promise12Values() {
        TermDesk desk = Checks.told("ring prime 97 order lex x y z;poly 2 x 15 y 3 + z - 5;poly 96;poly x15y15z15");
        int power = java.math.BigInteger.valueOf(96).pow(15).mod(java.math.BigInteger.valueOf(97)).intValue();
        Checks.answered("value", desk, desk.value(0, 96, 2, 3), Math.floorMod(2 * power * 8 + 3 - 5, 97));
        Checks.answered("at 0", desk, desk.value(0, 0, 0, 0), 92);
        Checks.answered("of a number", desk, desk.value(1, 0, 0, 96), 96);
        Checks.answered("of ZERO", desk, desk.value(3, 1, 1, 1), 0);
        Checks.answered("of the greatest exponents", desk, desk.value(2, 96, 96, 96), 96);
        desk = Checks.told("ring prime 5 order lex x y z;poly x + 2 y + 3 z");
        Checks.answered("x, y, z in this turn", desk, desk.value(0, 1, 2, 3), 4);
    }

    private static void promise12EveryValueOfEveryTerm() {
        for (int p : new int[] {2, 3, 97}) {
            TermDesk desk = Checks.told("ring prime " + p + " order deg x y z;poly x7 y3 z");
            for (int a = 0; a < p; a += p > 3 ? 19 : 1) {
                for (int b = 0; b < p; b += p > 3 ? 32 : 1) {
                    long due = 1;
                    for (int i = 0; i < 10; i++) {
                        due = due * (i < 7 ? a : b) % p;
                    }
                    Checks.answered("value by " + p, desk, desk.value(0, a, b, p - 1), (int) (due * (p - 1) % p));
                }
            }
        }
    }

    private static void promise12SixtyTerms() {
        TermDesk desk = Checks.told(SIXTY);
        desk.times(0, 1, 7);
        Checks.answered("10 by 6", desk, desk.value(7, 1, 1, 1), 4);
        Checks.answered("1", desk, desk.value(7, 0, 0, 5), 1);
    }

    private static void promise12NumbersFrom0ToPrimeLess1() {
        for (int p : new int[] {2, 7, 97}) {
            TermDesk desk = Checks.told("ring prime " + p + " order lex x y z;poly 1");
            Checks.answered("the greatest", desk, desk.value(0, p - 1, p - 1, p - 1), 1);
            for (int n : new int[] {-1, p, p + 1, MIN, MAX}) {
                Checks.refused("x " + n, desk, desk.value(0, n, 0, 0), 2);
                Checks.refused("y " + n, desk, desk.value(0, 0, n, 0), 2);
                Checks.refused("z " + n, desk, desk.value(0, 0, 0, n), 2);
                Checks.refused("of ZERO", desk, desk.value(1, 0, 0, n), 2);
            }
        }
    }

    private static void promise12NoSuchRegister() {
        TermDesk desk = Checks.told("ring prime 7 order lex x y z;poly x");
        for (int r : NO_REGISTERS) {
            Checks.refused("register " + r, desk, desk.value(r, 0, 0, 0), 1);
            Checks.refused("1 ahead of 2", desk, desk.value(r, 7, 0, 0), 1);
        }
    }

    // ---- 13: roots

    private static void promise13OfThoseUnknownsThatOccur() {
        TermDesk desk = Checks.told("ring prime 7 order lex x y z;poly x;poly y2;poly z3;poly x y;poly y z;poly x z");
        int[] due = {1, 1, 1, 13, 13, 13};
        for (int r = 0; r < 6; r++) {
            Checks.answered("register " + r, desk, desk.roots(r), due[r]);
        }
        desk.times(3, 2, 7);
        Checks.answered("x y z3", desk, desk.roots(7), 343 - 216);
        desk = Checks.told("ring prime 5 order lex x y z;poly x5 - x;poly x2 + 2;poly z2 - 4;poly y2z + 1;poly x - y");
        int[] more = {5, 0, 2, 4, 5};
        for (int r = 0; r < 5; r++) {
            Checks.answered("register " + r, desk, desk.roots(r), more[r]);
        }
    }

    /** Beside all choices one by one. */
    private static void promise13EachChoiceCounts() {
        Random random = new Random(13);
        for (int i = 0; i < 400; i++) {
            int p = new int[] {2, 3, 5, 7, 11}[i % 5];
            int[][] terms = new int[1 + random.nextInt(5)][];
            StringBuilder text = new StringBuilder("ring prime " + p + " order lex x y z;poly 0");
            int[] most = {1, 1, 1};
            for (int t = 0; t < terms.length; t++) {
                int[] e = new int[4];
                e[3] = 1 + random.nextInt(p - 1);
                text.append(" + ").append(e[3]);
                for (int u = 0; u < 3; u++) {
                    e[u] = i / 5 >> u & 1;
                    e[u] *= random.nextInt(4) == 0 ? 15 : random.nextInt(16);
                    text.append(e[u] > 0 ? " " + "xyz".charAt(u) + e[u] : "");
                }
                terms[t] = e;
            }
            TermDesk desk = Checks.told(text.toString());
            for (int u = 0; u < 3; u++) {
                most[u] = desk.degreeIn(0, u) > 0 ? p : 1;
            }
            Checks.answered("roots of " + text, desk, desk.roots(0), count(terms, most, p));
        }
    }

    private static int count(int[][] terms, int[] most, int p) {
        int count = 0;
        for (int choice = 0; choice < most[0] * most[1] * most[2]; choice++) {
            int[] values = {choice % most[0], choice / most[0] % most[1], choice / most[0] / most[1]};
            int sum = 0;
            for (int[] t : terms) {
                int product = t[3];
                for (int u = 0; u < 3; u++) {
                    for (int e = 0; e < t[u]; e++) {
                        product = product * values[u] % p;
                    }
                }
                sum += product;
            }
            count += sum % p == 0 ? 1 : 0;
        }
        return count;
    }

    private static void promise13SixtyTerms() {
        TermDesk desk = Checks.told(SIXTY);
        desk.times(0, 1, 7);
        int ofX = desk.roots(0);
        int ofY = desk.roots(1);
        Checks.answered("of a product", desk, desk.roots(7), 7 * ofX + 7 * ofY - ofX * ofY);
    }

    private static void promise13WithoutAnyUnknown() {
        TermDesk desk = Checks.told("ring prime 7 order lex x y z;poly 1;poly 7");
        Checks.answered("a number", desk, desk.roots(0), 0);
        Checks.answered("ZERO", desk, desk.roots(1), 1);
        Checks.answered("ZERO, not told", desk, desk.roots(7), 1);
    }

    private static void promise13UpTo10000Choices() {
        int[] primes = {2, 19, 23, 97};
        for (int p : primes) {
            TermDesk desk = Checks.told("ring prime " + p + " order lex x y z;poly x + y + z;poly x y;poly y z;poly x z;poly z");
            if (p * p * p > 10000) {
                Checks.refused("three by " + p, desk, desk.roots(0), 5);
            } else {
                Checks.answered("three by " + p, desk, desk.roots(0), p * p);
            }
            for (int r = 1; r < 4; r++) {
                Checks.answered("two by " + p, desk, desk.roots(r), 2 * p - 1);
            }
            Checks.answered("one by " + p, desk, desk.roots(4), 1);
        }
    }

    private static void promise13NoSuchRegister() {
        TermDesk desk = Checks.told("ring prime 97 order lex x y z;poly x + y + z");
        for (int r : NO_REGISTERS) {
            Checks.refused("register " + r, desk, desk.roots(r), 1);
        }
    }

    // ---- 14: same

    private static void promise14Alike() {
        TermDesk desk = Checks.told("ring prime 5 order lex x y z;poly x + 1;poly 6 + 11 x;poly 5");
        Checks.answered("told otherwise", desk, desk.same(0, 1), 1);
        Checks.answered("one and the same", desk, desk.same(0, 0), 1);
        Checks.answered("two ZERO", desk, desk.same(2, 7), 1);
        desk.order(2, 2, 1);
        Checks.answered("by another order", desk, desk.same(1, 0), 1);
    }

    private static void promise14Unlike() {
        TermDesk desk = Checks.told("ring prime 5 order lex x y z;poly x + 1;poly x + 2;poly y + 1;poly x;poly x + y + 1;poly 1");
        for (int r = 1; r < 7; r++) {
            Checks.answered("0 and " + r, desk, desk.same(0, r), 0);
            Checks.answered(r + " and 0", desk, desk.same(r, 0), 0);
        }
    }

    private static void promise14NoSuchRegister() {
        TermDesk desk = Checks.told("ring prime 5 order lex x y z;poly x + 1");
        for (int r : NO_REGISTERS) {
            Checks.refused("r " + r, desk, desk.same(r, 0), 1);
            Checks.refused("q " + r, desk, desk.same(0, r), 1);
            Checks.refused("both " + r, desk, desk.same(r, r), 1);
        }
    }

    // ---- 15: ahead

    private static void promise15Lex() {
        TermDesk desk = Checks.told("ring prime 5 order lex y z x");
        Checks.answered("first", desk, desk.ahead(0, 2, 0, 15, 1, 15), 1);
        Checks.answered("second", desk, desk.ahead(15, 2, 0, 0, 2, 1), -1);
        Checks.answered("third", desk, desk.ahead(4, 2, 1, 3, 2, 1), 1);
        Checks.answered("the last of all", desk, desk.ahead(0, 0, 0, 1, 0, 0), -1);
    }

    private static void promise15Deg() {
        TermDesk desk = Checks.told("ring prime 5 order deg y z x");
        Checks.answered("degree", desk, desk.ahead(3, 0, 0, 0, 2, 0), 1);
        Checks.answered("of like ones first", desk, desk.ahead(0, 2, 0, 1, 1, 0), 1);
        Checks.answered("then second", desk, desk.ahead(1, 1, 0, 0, 1, 1), -1);
        Checks.answered("45 and 44", desk, desk.ahead(15, 15, 15, 14, 15, 15), 1);
    }

    private static void promise15Rev() {
        TermDesk desk = Checks.told("ring prime 5 order rev y z x");
        Checks.answered("degree", desk, desk.ahead(3, 0, 0, 0, 2, 0), 1);
        Checks.answered("less of third", desk, desk.ahead(1, 2, 0, 0, 0, 3), -1);
        Checks.answered("less of second", desk, desk.ahead(1, 1, 1, 1, 2, 0), -1);
        Checks.answered("45 and 44", desk, desk.ahead(15, 15, 15, 14, 15, 15), 1);
    }

    private static void promise15Alike() {
        for (String how : new String[] {"lex", "deg", "rev"}) {
            TermDesk desk = Checks.told("ring prime 5 order " + how + " z x y");
            Checks.answered(how, desk, desk.ahead(4, 2, 1, 4, 2, 1), 0);
            Checks.answered(how, desk, desk.ahead(15, 15, 15, 15, 15, 15), 0);
            Checks.answered(how, desk, desk.ahead(0, 0, 0, 0, 0, 0), 0);
        }
    }

    private static void promise15ExponentsFrom0To15() {
        TermDesk desk = Checks.told("ring prime 5 order rev y z x");
        for (int e : NO_EXPONENTS) {
            for (int place = 0; place < 6; place++) {
                int[] all = new int[6];
                all[place] = e;
                Checks.due("place " + place, desk.ahead(all[0], all[1], all[2], all[3], all[4], all[5]), -2);
                Checks.trouble("place " + place, desk, 2);
            }
        }
    }

    private static void promise15NoDesk() {
        TermDesk desk = new TermDesk();
        Checks.due("ahead", desk.ahead(1, 0, 0, 0, 0, 0), -2);
        Checks.trouble("ahead", desk, 1);
        Checks.due("1 ahead of 2", desk.ahead(16, 0, 0, 0, 0, 0), -2);
        Checks.trouble("1 ahead of 2", desk, 1);
    }

    /** In each ORDER all TERMS with EXPONENTS at the bounds, beside all such. */
    private static void promise15TheBoundsOfEveryOrder() {
        int[] bounds = {0, 1, 14, 15};
        for (int i = 0; i < 18 * 64; i++) {
            int how = i % 3;
            String all = new String[] {"x y z", "x z y", "y x z", "y z x", "z x y", "z y x"}[i / 3 % 6];
            String order = new String[] {"lex ", "deg ", "rev "}[how] + all;
            TermDesk desk = Checks.told("ring prime 5 order " + order);
            int[] a = {bounds[i / 18 & 3], bounds[i / 18 >> 2 & 3], bounds[i / 18 >> 4]};
            for (int j = 0; j < 64; j++) {
                int[] b = {bounds[j & 3], bounds[j >> 2 & 3], bounds[j >> 4]};
                Checks.due("by " + order, desk.ahead(a[0], a[1], a[2], b[0], b[1], b[2]), by(how, all, a, b));
            }
        }
    }

    /** In each ORDER many TERMS beside others, by the words of the document alone. */
    private static void promise15EveryOrder() {
        Random random = new Random(7);
        for (int i = 0; i < 18 * 20; i++) {
            int how = i % 3;
            String all = new String[] {"x y z", "x z y", "y x z", "y z x", "z x y", "z y x"}[i / 3 % 6];
            String order = new String[] {"lex ", "deg ", "rev "}[how] + all;
            TermDesk desk = Checks.told("ring prime 5 order " + order);
            for (int call = 0; call < 400; call++) {
                int[] a = {random.nextInt(16), random.nextInt(16), random.nextInt(16)};
                int[] b = {random.nextInt(16), random.nextInt(16), random.nextInt(16)};
                int same = random.nextInt(4);
                b[2] = same == 0 ? Math.floorMod(a[0] + a[1] + a[2] - b[0] - b[1], 16) : b[2];
                b[random.nextInt(3)] = same == 1 ? a[0] : b[0];
                Checks.due("by " + order, desk.ahead(a[0], a[1], a[2], b[0], b[1], b[2]), by(how, all, a, b));
            }
        }
    }

    private static int by(int how, String all, int[] a, int[] b) {
        int first = all.charAt(0) - 'x';
        int second = all.charAt(2) - 'x';
        int third = all.charAt(4) - 'x';
        int degree = Integer.compare(a[0] + a[1] + a[2], b[0] + b[1] + b[2]);
        if (how > 0 && degree != 0) {
            return degree;
        }
        if (how == 2) {
            int less = Integer.compare(b[third], a[third]);
            return less != 0 ? less : Integer.compare(b[second], a[second]);
        }
        for (int u : new int[] {first, second, third}) {
            if (a[u] != b[u]) {
                return a[u] > b[u] ? 1 : -1;
            }
        }
        return 0;
    }

    // ---- 16: leadBy

    private static void promise16LeadByEachOrder() {
        TermDesk desk = Checks.told("ring prime 5 order lex x y z;poly x 2 + x y z 2 + y 4 + z 3");
        Checks.answered("lex y", desk, desk.leadBy(0, 0, 1, 0), 64);
        Checks.answered("lex z", desk, desk.leadBy(0, 0, 2, 0), 768);
        Checks.answered("deg x", desk, desk.leadBy(0, 1, 0, 1), 1 + 16 + 512);
        Checks.answered("rev x y", desk, desk.leadBy(0, 2, 0, 1), 64);
        Checks.answered("rev z x", desk, desk.leadBy(0, 2, 2, 0), 1 + 16 + 512);
        Checks.answered("that which it is", desk, desk.leadBy(0, 0, 0, 1), 2);
    }

    private static void promise16TheGreatestAndTheLeast() {
        TermDesk desk = Checks.told("ring prime 5 order lex x y z;poly x15y15z15 + 1;poly 3");
        Checks.answered("the greatest", desk, desk.leadBy(0, 1, 2, 0), 15 + 240 + 3840);
        Checks.answered("of a number", desk, desk.leadBy(1, 1, 2, 0), 0);
    }

    private static void promise16SixtyTerms() {
        TermDesk desk = Checks.told(SIXTY);
        desk.times(0, 1, 7);
        Checks.answered("lex y x", desk, desk.leadBy(7, 0, 1, 0), 9 + 16 * 5);
        desk = Checks.told("ring prime 7 order lex x y z;poly x + y15;poly y15");
        desk.less(0, 1, 0);
        Checks.answered("of what is left", desk, desk.leadBy(0, 0, 1, 0), 1);
    }

    private static void promise16OfZero() {
        TermDesk desk = Checks.told("ring prime 5 order lex x y z");
        Checks.answered("ZERO", desk, desk.leadBy(1, 0, 0, 1), -2);
        Checks.answered("ZERO", desk, desk.leadBy(1, 2, 2, 1), -2);
    }

    private static void promise16NoSuchOrder() {
        TermDesk desk = Checks.told("ring prime 5 order lex x y z;poly x + y");
        for (int[] w : NO_ORDERS) {
            Checks.refused("leadBy", desk, desk.leadBy(0, w[0], w[1], w[2]), 2);
            Checks.refused("leadBy of ZERO", desk, desk.leadBy(1, w[0], w[1], w[2]), 2);
        }
    }

    private static void promise16NoSuchRegister() {
        TermDesk desk = Checks.told("ring prime 5 order lex x y z;poly x + y");
        for (int r : NO_REGISTERS) {
            Checks.refused("register " + r, desk, desk.leadBy(r, 0, 0, 1), 1);
            Checks.refused("1 ahead of 2", desk, desk.leadBy(r, 3, 0, 0), 1);
        }
    }

    private static void promise16TheOrderStays() {
        TermDesk desk = Checks.told("ring prime 5 order lex x y z;poly x + y 2");
        Checks.answered("deg", desk, desk.leadBy(0, 1, 1, 0), 32);
        Checks.due("lex", desk.about(1), 0);
        Checks.due("x", desk.about(2), 0);
        Checks.is("as it was", desk, 0, "1 x1 + 1 y2");
        Checks.due("no act", desk.size(1), 0);
    }
}
