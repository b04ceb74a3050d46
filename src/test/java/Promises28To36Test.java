import java.util.Random;
import java.util.TreeMap;

/** Promises 28 to 36: rest, quotient, pair, common, content, primitive, complete, order, undo. */
public final class Promises28To36Test {
    private static final int MIN = Integer.MIN_VALUE;
    private static final int MAX = Integer.MAX_VALUE;
    private static final int[] NO_REGISTERS = {-1, 8, 255, MIN, MAX};
    private static final int[] NO_SETS = {0, 256, 257, 511, -1, -255, MIN, MAX};
    private static final int[] PRIMES = {2, 3, 5, 7, 11, 13, 17, 19, 23, 29, 31, 37, 41, 43, 47, 53, 59, 61, 67, 71, 73,
        79, 83, 89, 97};
    private static final String TEXTBOOK = "ring prime 7 order lex x y z;poly x2y + x y2 + y2;poly 2 x y - 2;poly y2 - 1";
    private static final String TOO_HIGH = "ring prime 5 order lex x y z;poly x2;poly x - y8;poly x - y7";

    /** By x and y, modulo 2: coprime, but with a divisor in common at the first places of y. */
    private static final int[][] UNLUCKY_ONE = {{11, 0}, {1, 1}, {5, 4}, {7, 2}, {1, 4}, {1, 3}, {8, 0}, {4, 7}, {9, 1},
        {0, 3}, {5, 7}, {0, 0}, {2, 2}, {4, 3}, {4, 0}, {3, 2}, {7, 6}, {7, 3}, {0, 2}, {0, 6}, {2, 7}, {8, 1}, {3, 4},
        {4, 4}, {6, 6}, {3, 1}, {5, 6}, {4, 6}, {6, 4}, {8, 4}, {8, 3}, {0, 5}};
    private static final int[][] UNLUCKY_TWO = {{10, 0}, {2, 6}, {6, 3}, {5, 5}, {6, 7}, {9, 7}, {5, 3}, {3, 4}, {4, 4},
        {7, 0}, {5, 6}, {1, 3}, {1, 6}, {7, 7}, {5, 0}, {8, 5}, {3, 1}, {9, 6}, {4, 5}, {2, 3}, {9, 5}, {2, 1}, {4, 6},
        {5, 1}, {3, 5}, {6, 1}, {2, 7}, {5, 4}, {2, 0}, {8, 3}, {2, 2}, {3, 2}};

    public static void main(String[] args) {
        Checks.promises(Promises28To36Test.class, 28, 36);
    }

    /** A refused call lays nothing and is no ACT. */
    private static void nothingDone(TermDesk desk, int acts) {
        Checks.due("acts", desk.size(1), acts);
        Checks.is("nothing laid", desk, 7, "");
    }

    // ---- 28: rest

    private static void promise28RestByASet() {
        TermDesk desk = Checks.told(TEXTBOOK);
        Checks.answered("rest", desk, desk.rest(0, 6, 3), 3);
        Checks.is("rest", desk, 3, "1 x1 + 1 y1 + 1");
        Checks.answered("by the second alone", desk, desk.rest(0, 4, 3), 3);
        Checks.is("by the second alone", desk, 3, "1 x2 y1 + 1 x1 + 1");
        Checks.answered("ZERO", desk, desk.rest(7, 6, 3), 0);
        Checks.answered("by itself", desk, desk.rest(0, 7, 3), 0);
    }

    private static void promise28InADivisorOrInItself() {
        TermDesk desk = Checks.told(TEXTBOOK);
        Checks.answered("in a divisor", desk, desk.rest(0, 6, 1), 3);
        Checks.is("in a divisor", desk, 1, "1 x1 + 1 y1 + 1");
        Checks.due("undo", desk.undo(), true);
        Checks.is("undo", desk, 1, "2 x1 y1 + 5");
        Checks.answered("in itself", desk, desk.rest(0, 6, 0), 3);
        Checks.is("in itself", desk, 0, "1 x1 + 1 y1 + 1");
    }

    private static void promise28NoSuchRegister() {
        TermDesk desk = Checks.told(TEXTBOOK);
        for (int r : NO_REGISTERS) {
            Checks.refused("r " + r, desk, desk.rest(r, 6, 7), 1);
            Checks.refused("k " + r, desk, desk.rest(0, 6, r), 1);
            Checks.refused("1 ahead of 2", desk, desk.rest(0, 0, r), 1);
            Checks.refused("1 ahead of 5", desk, desk.rest(0, 255, r), 1);
        }
        nothingDone(desk, 0);
    }

    private static void promise28SetsFrom1To255() {
        TermDesk desk = Checks.told(TEXTBOOK);
        for (int set : NO_SETS) {
            Checks.refused("set " + set, desk, desk.rest(0, set, 7), 2);
        }
        nothingDone(desk, 0);
    }

    private static void promise28ADivisorIsZero() {
        TermDesk desk = Checks.told(TEXTBOOK);
        Checks.refused("one of them", desk, desk.rest(0, 14, 7), 5);
        Checks.refused("all of them", desk, desk.rest(0, 128, 7), 5);
        desk = Checks.told(TOO_HIGH);
        Checks.refused("5 ahead of 3", desk, desk.rest(0, 130, 7), 5);
        nothingDone(desk, 0);
    }

    private static void promise28NoRoom() {
        TermDesk desk = Checks.told(TOO_HIGH);
        Checks.refused("y16", desk, desk.rest(0, 2, 7), 3);
        nothingDone(desk, 0);
        Checks.answered("y14", desk, desk.rest(0, 4, 7), 1);
        Checks.is("y14", desk, 7, "1 y14");
    }

    // ---- 29: quotient

    private static void promise29OfEachDivisor() {
        TermDesk desk = Checks.told(TEXTBOOK);
        Checks.answered("of 1", desk, desk.quotient(0, 6, 1, 4), 2);
        Checks.is("of 1", desk, 4, "4 x1 + 4 y1");
        Checks.answered("of 2", desk, desk.quotient(0, 6, 2, 5), 1);
        Checks.is("of 2", desk, 5, "1");
        Checks.answered("of itself", desk, desk.quotient(0, 7, 0, 0), 1);
        Checks.is("of itself, in itself", desk, 0, "1");
        Checks.answered("of ZERO", desk, desk.quotient(7, 6, 1, 4), 0);
    }

    /** What is divided is each QUOTIENT times its divisor, and REST, together. */
    private static void promise29TogetherTheyMakeIt() {
        TermDesk desk = Checks.told(TEXTBOOK);
        desk.quotient(0, 6, 1, 4);
        desk.quotient(0, 6, 2, 5);
        desk.rest(0, 6, 7);
        desk.times(4, 1, 4);
        desk.times(5, 2, 5);
        desk.add(4, 7, 7);
        desk.add(5, 7, 7);
        Checks.due("same", desk.same(0, 7), 1);
    }

    private static void promise29NoSuchRegister() {
        TermDesk desk = Checks.told(TEXTBOOK);
        for (int r : NO_REGISTERS) {
            Checks.refused("r " + r, desk, desk.quotient(r, 6, 1, 7), 1);
            Checks.refused("d " + r, desk, desk.quotient(0, 6, r, 7), 1);
            Checks.refused("k " + r, desk, desk.quotient(0, 6, 1, r), 1);
            Checks.refused("1 ahead of 2", desk, desk.quotient(0, 0, r, 7), 1);
            Checks.refused("1 ahead of 5", desk, desk.quotient(0, 255, 0, r), 1);
        }
        nothingDone(desk, 0);
    }

    private static void promise29SetsFrom1To255() {
        TermDesk desk = Checks.told(TEXTBOOK);
        for (int set : NO_SETS) {
            Checks.refused("set " + set, desk, desk.quotient(0, set, 0, 7), 2);
        }
        nothingDone(desk, 0);
    }

    private static void promise29DIsNotInTheSet() {
        TermDesk desk = Checks.told(TEXTBOOK);
        Checks.refused("0 is not in 6", desk, desk.quotient(0, 6, 0, 7), 2);
        Checks.refused("7 is not in 6", desk, desk.quotient(0, 6, 7, 7), 2);
        Checks.refused("2 ahead of 5", desk, desk.quotient(0, 8, 1, 7), 2);
        desk = Checks.told(TOO_HIGH);
        Checks.refused("2 ahead of 3", desk, desk.quotient(0, 2, 0, 7), 2);
        nothingDone(desk, 0);
    }

    private static void promise29ADivisorIsZero() {
        TermDesk desk = Checks.told(TEXTBOOK);
        Checks.refused("another one", desk, desk.quotient(0, 10, 1, 7), 5);
        Checks.refused("d", desk, desk.quotient(0, 128, 7, 7), 5);
        desk = Checks.told(TOO_HIGH);
        Checks.refused("5 ahead of 3", desk, desk.quotient(0, 130, 1, 7), 5);
        nothingDone(desk, 0);
    }

    private static void promise29NoRoom() {
        TermDesk desk = Checks.told(TOO_HIGH);
        Checks.refused("y16", desk, desk.quotient(0, 2, 1, 7), 3);
        nothingDone(desk, 0);
        Checks.answered("y14", desk, desk.quotient(0, 4, 2, 7), 2);
        Checks.is("y14", desk, 7, "1 x1 + 1 y7");
    }

    // ---- 30: pair

    private static void promise30OneLessTheOther() {
        TermDesk desk = Checks.told("ring prime 7 order deg x y z;poly 2 x3y + 4 z;poly 3 x y2 + x + 1;poly x3y + 2 z;poly 5;poly 2 z");
        Checks.answered("pair", desk, desk.pair(0, 1, 7), 3);
        Checks.is("pair", desk, 7, "2 x3 + 2 x2 + 2 y1 z1");
        Checks.answered("the other way", desk, desk.pair(1, 0, 7), 3);
        Checks.is("the other way", desk, 7, "5 x3 + 5 x2 + 5 y1 z1");
        Checks.answered("like ones in two registers", desk, desk.pair(0, 2, 7), 0);
        Checks.answered("two monomials", desk, desk.pair(3, 4, 7), 0);
        Checks.answered("in one of them", desk, desk.pair(0, 1, 1), 3);
        Checks.is("in one of them", desk, 1, "2 x3 + 2 x2 + 2 y1 z1");
    }

    private static void promise30UnlikeRegisters() {
        TermDesk desk = Checks.told("ring prime 7 order deg x y z;poly x + y");
        Checks.refused("one", desk, desk.pair(0, 0, 7), 1);
        Checks.refused("1 ahead of 5", desk, desk.pair(6, 6, 7), 1);
        nothingDone(desk, 0);
    }

    private static void promise30NoSuchRegister() {
        TermDesk desk = Checks.told("ring prime 7 order deg x y z;poly x + y;poly x");
        for (int r : NO_REGISTERS) {
            Checks.refused("r " + r, desk, desk.pair(r, 1, 7), 1);
            Checks.refused("q " + r, desk, desk.pair(0, r, 7), 1);
            Checks.refused("k " + r, desk, desk.pair(0, 1, r), 1);
            Checks.refused("1 ahead of 5", desk, desk.pair(0, 6, r), 1);
        }
        nothingDone(desk, 0);
    }

    private static void promise30WithZero() {
        TermDesk desk = Checks.told("ring prime 7 order deg x y z;poly x + y");
        Checks.refused("q", desk, desk.pair(0, 6, 7), 5);
        Checks.refused("r", desk, desk.pair(6, 0, 7), 5);
        Checks.refused("both", desk, desk.pair(5, 6, 7), 5);
        nothingDone(desk, 0);
    }

    private static void promise30NoRoomForExponents() {
        TermDesk desk = Checks.told("ring prime 7 order lex x y z;poly x y + z;poly x2 + y15;poly x2 + y14");
        Checks.refused("y16 of the second", desk, desk.pair(0, 1, 7), 3);
        Checks.refused("y16 of the first", desk, desk.pair(1, 0, 7), 3);
        nothingDone(desk, 0);
        Checks.answered("y15", desk, desk.pair(0, 2, 7), 2);
        Checks.is("y15", desk, 7, "1 x1 z1 + 6 y15");
    }

    /** z + 30 terms in x and y, and x6 + 30 or 31 such terms. */
    private static void promise30NoRoomForTerms() {
        TermDesk desk = Checks.told("ring prime 7 order lex z x y;poly x5+x4+x3+x2+x+1;poly y4+y3+y2+y+1;poly z;poly x6;poly y10");
        desk.times(0, 1, 5);
        desk.add(5, 2, 6);
        desk.add(5, 3, 5);
        Checks.answered("60", desk, desk.pair(5, 6, 2), 60);
        desk.add(5, 4, 5);
        Checks.refused("61", desk, desk.pair(5, 6, 7), 3);
        Checks.refused("61, the other way", desk, desk.pair(6, 5, 7), 3);
        nothingDone(desk, 5);
    }

    // ---- 31: common

    private static void promise31OfTheGreatestDegree() {
        TermDesk desk = Checks.told("ring prime 7 order lex x y z;poly 2 x2 - 2 y2;poly 3 x2 + 6 x y + 3 y2;poly 5;poly x3;poly y2;"
            + "poly 4 x y");
        Checks.answered("x + y", desk, desk.common(0, 1, 7), 2);
        Checks.is("x + y", desk, 7, "1 x1 + 1 y1");
        Checks.answered("the other way", desk, desk.common(1, 0, 7), 2);
        Checks.is("the other way", desk, 7, "1 x1 + 1 y1");
        Checks.answered("powers of x", desk, desk.common(3, 5, 7), 1);
        Checks.is("powers of x", desk, 7, "1 x1");
        Checks.answered("powers of y", desk, desk.common(4, 5, 7), 1);
        Checks.is("powers of y", desk, 7, "1 y1");
        Checks.answered("none but a number", desk, desk.common(3, 4, 7), 1);
        Checks.is("none but a number", desk, 7, "1");
        desk = Checks.told("ring prime 3 order lex x y z;poly x3 - y3;poly x - y;poly x2 + x y + y2");
        Checks.answered("a cube", desk, desk.common(0, 1, 7), 2);
        Checks.answered("a square in a cube", desk, desk.common(0, 2, 7), 3);
    }

    private static void promise31ItsLeadIsOne() {
        TermDesk desk = Checks.told("ring prime 7 order lex x y z;poly 3 x + 2 y;poly 5");
        Checks.answered("with itself", desk, desk.common(0, 0, 7), 2);
        Checks.is("with itself", desk, 7, "1 x1 + 3 y1");
        desk.order(0, 1, 0);
        Checks.answered("by another order, in itself", desk, desk.common(0, 0, 0), 2);
        Checks.is("by another order, in itself", desk, 0, "1 y1 + 5 x1");
        Checks.answered("of a number", desk, desk.common(1, 1, 7), 1);
        Checks.is("of a number", desk, 7, "1");
        Checks.answered("with a number", desk, desk.common(0, 1, 7), 1);
        Checks.is("with a number", desk, 7, "1");
    }

    private static void promise31WithZero() {
        TermDesk desk = Checks.told("ring prime 7 order lex x y z;poly 3 x2 + 6 x y + 3 y2;poly 4");
        Checks.answered("of two ZERO", desk, desk.common(6, 5, 7), 0);
        Checks.answered("of one ZERO", desk, desk.common(6, 6, 7), 0);
        Checks.answered("ZERO first", desk, desk.common(6, 0, 7), 3);
        Checks.is("ZERO first", desk, 7, "1 x2 + 2 x1 y1 + 1 y2");
        Checks.answered("ZERO second", desk, desk.common(0, 6, 7), 3);
        Checks.is("ZERO second", desk, 7, "1 x2 + 2 x1 y1 + 1 y2");
        Checks.answered("ZERO and a number", desk, desk.common(6, 1, 7), 1);
        Checks.is("ZERO and a number", desk, 7, "1");
    }

    private static void promise31TheGreatestExponents() {
        for (int p : PRIMES) {
            TermDesk desk = Checks.told("ring prime " + p + " order lex x y z;poly x15y15 - 1;poly x15y15 + x14y14 - x y - 1;poly x15y15;"
                + "poly x14y15 + x15y14;poly x15 - y15;poly x y - 1");
            Checks.answered("x15y15 - 1 by x y - 1", desk, desk.common(0, 5, 7), 2);
            Checks.due("x y - 1", desk.same(7, 5), 1);
            Checks.answered("powers", desk, desk.common(2, 3, 7), 1);
            Checks.is("powers", desk, 7, "1 x14 y14");
            Checks.answered("none but a number", desk, desk.common(2, 4, 7), 1);
            Checks.is("none but a number", desk, 7, "1");
            desk.common(0, 1, 7);
            Checks.due("it divides one", desk.divides(7, 0), 1);
            Checks.due("it divides the other", desk.divides(7, 1), 1);
        }
    }

    private static void promise31NoSuchRegister() {
        TermDesk desk = Checks.told("ring prime 5 order lex x y z;poly x + z;poly x y");
        for (int r : NO_REGISTERS) {
            Checks.refused("r " + r, desk, desk.common(r, 1, 7), 1);
            Checks.refused("q " + r, desk, desk.common(1, r, 7), 1);
            Checks.refused("k " + r, desk, desk.common(1, 1, r), 1);
            Checks.refused("1 ahead of 5", desk, desk.common(0, 0, r), 1);
        }
        nothingDone(desk, 0);
    }

    private static void promise31WithZ() {
        TermDesk desk = Checks.told("ring prime 5 order lex x y z;poly x + z;poly x y;poly z15");
        Checks.refused("r", desk, desk.common(0, 1, 7), 5);
        Checks.refused("q", desk, desk.common(1, 0, 7), 5);
        Checks.refused("with ZERO", desk, desk.common(6, 0, 7), 5);
        Checks.refused("with ZERO", desk, desk.common(2, 6, 7), 5);
        Checks.refused("with itself", desk, desk.common(2, 2, 7), 5);
        nothingDone(desk, 0);
    }

    /** Two of few terms whose divisor in common has 225. */
    private static void promise31NoRoom() {
        TermDesk desk = Checks.told("ring prime 7 order deg y x z;poly x15y15 - x15 - y15 + 1;poly 1");
        int[][] edge = new int[58][];
        int at = 0;
        for (int i = 0; i < 15; i++) {
            edge[at++] = new int[] {15, i + 1, 1};
            edge[at++] = new int[] {0, i, 6};
            if (i < 14) {
                edge[at++] = new int[] {i + 1, 15, 1};
                edge[at++] = new int[] {i + 1, 0, 6};
            }
        }
        int acts = build(desk, 1, 2, edge);
        Checks.due("58 terms", desk.terms(2), 58);
        Checks.refused("225 terms", desk, desk.common(0, 2, 7), 3);
        Checks.refused("225 terms, the other way", desk, desk.common(2, 0, 7), 3);
        nothingDone(desk, acts);
    }

    /** h = r + r x + r x2 + r x3 + x4, r being y14 + .. + 1, the first r without y14 or with it: by y - 1, and by x - 1. */
    private static void promise31SixtyTermsAndNoMore() {
        for (int more = 0; more < 2; more++) {
            TermDesk desk = Checks.told("ring prime 7 order lex x y z;poly 1");
            build(desk, 0, 1, new int[][] {{0, 14 + more, 1}, {0, 0, 6}, {1, 15, 1}, {1, 0, 6}, {2, 15, 1}, {2, 0, 6}, {3, 15, 1},
                {3, 0, 6}, {4, 1, 1}, {4, 0, 6}});
            int[][] other = new int[30][];
            for (int i = 0; i < 14; i++) {
                other[i] = new int[] {0, i, 6};
                other[14 + i] = new int[] {4, i + 1, 1};
            }
            other[28] = new int[] {1 - more, 14, 6};
            other[29] = new int[] {5, 0, 1};
            int acts = build(desk, 0, 2, other);
            Checks.due("10 terms and 30", desk.terms(1) * 100 + desk.terms(2), 1030);
            if (more == 0) {
                Checks.answered("60", desk, desk.common(1, 2, 7), 60);
                Checks.answered("60 with itself", desk, desk.common(7, 7, 6), 60);
            } else {
                Checks.refused("61", desk, desk.common(1, 2, 7), 3);
                nothingDone(desk, acts);
            }
        }
    }

    private static void promise31PlacesThatMislead() {
        TermDesk desk = Checks.told("ring prime 2 order lex x y z;poly x + y;poly 1");
        build(desk, 1, 2, UNLUCKY_ONE);
        build(desk, 1, 3, UNLUCKY_TWO);
        Checks.answered("coprime", desk, desk.common(2, 3, 4), 1);
        Checks.is("coprime", desk, 4, "1");
        Checks.due("times x + y", desk.times(2, 0, 2) > 0 && desk.times(3, 0, 3) > 0, true);
        Checks.answered("x + y", desk, desk.common(2, 3, 4), 2);
        Checks.due("x + y", desk.same(4, 0), 1);
    }

    /** Lays a polynomial of any terms in a register, by the one that is 1; answers what can be undone. */
    private static int build(TermDesk desk, int one, int k, int[][] terms) {
        desk.less(k, k, k);
        for (int[] t : terms) {
            desk.scale(one, t.length > 2 ? t[2] : 1, t[0], t[1], 0, 7);
            desk.add(k, 7, k);
        }
        desk.less(7, 7, 7);
        return desk.size(1);
    }

    /** By each prime, beside the model, which reckons with pseudo-remainders instead of places. */
    private static void promise31EveryPrime() {
        Random random = new Random(11);
        for (int i = 0; i < 1200; i++) {
            int prime = i % 2 == 0 ? PRIMES[i / 2 % PRIMES.length] : PRIMES[random.nextInt(3)];
            besideTheModel(new TermDesk(), factors(random, prime));
        }
    }

    /** On one object: nothing of an earlier prime, or of earlier divisors, is left. */
    private static void promise31OneAfterAnother() {
        Random random = new Random(31);
        for (int i = 0; i < 60; i++) {
            TermDesk desk = new TermDesk();
            for (int j = 0; j < 8; j++) {
                besideTheModel(desk, factors(random, PRIMES[random.nextInt(j % 2 == 0 ? 4 : PRIMES.length)]));
            }
        }
    }

    private static String factors(Random random, int prime) {
        String how = new String[] {"lex x y z", "deg y z x", "rev z x y"}[random.nextInt(3)];
        int x = random.nextInt(9);
        int y = random.nextInt(9);
        return "ring prime " + prime + " order " + how + ";poly " + any(random, prime, x, y) + ";poly "
            + any(random, prime, 15 - x, 15 - y) + ";poly " + any(random, prime, 15 - x, 15 - y);
    }

    private static void besideTheModel(TermDesk desk, String text) {
        Model model = Model.told(text);
        Checks.due(text, Checks.tell(desk, text), 3);
        Checks.due(text, desk.times(0, 1, 3), model.times(0, 1, 3));
        Checks.due(text, desk.times(0, 2, 4), model.times(0, 2, 4));
        Checks.due("common of " + text, desk.common(3, 4, 5), model.common(3, 4, 5));
        Checks.due("content of " + text, desk.content(3, 6), model.content(3, 6));
        Checks.due("primitive of " + text, desk.primitive(4, 7), model.primitive(4, 7));
        for (int r = 5; r < 8; r++) {
            for (int k = 0; k < model.terms(r); k++) {
                for (int what = 0; what < 3; what++) {
                    Checks.due("register " + r + " of " + text, desk.term(r, k, what), model.term(r, k, what));
                }
            }
        }
    }

    private static String any(Random random, int prime, int x, int y) {
        TreeMap<String, Integer> terms = new TreeMap<>();
        for (int n = 1 + random.nextInt(7); n > 0; n--) {
            int i = random.nextInt(x + 1);
            int j = random.nextInt(y + 1);
            terms.put((i > 0 ? " x" + i : "") + (j > 0 ? " y" + j : ""), 1 + random.nextInt(prime - 1));
        }
        StringBuilder text = new StringBuilder();
        terms.forEach((powers, c) -> text.append(text.length() > 0 ? " + " : "").append(c).append(powers));
        return text.toString();
    }

    // ---- 32: content

    private static void promise32OfPowersOfX() {
        TermDesk desk = Checks.told("ring prime 5 order rev z x y;poly 3 x2y2 - 3 x2 + 2 x y + 2 x;poly 3 y2 - 3;poly 2 x3;poly 4;"
            + "poly x15y15 + y15;poly x y + 1");
        Checks.answered("y + 1", desk, desk.content(0, 7), 2);
        Checks.is("y + 1", desk, 7, "1 y1 + 1");
        Checks.answered("in y alone", desk, desk.content(1, 7), 2);
        Checks.is("in y alone", desk, 7, "1 y2 + 4");
        Checks.answered("of x3", desk, desk.content(2, 7), 1);
        Checks.is("of x3", desk, 7, "1");
        Checks.answered("of a number", desk, desk.content(3, 7), 1);
        Checks.is("of a number", desk, 7, "1");
        Checks.answered("y15", desk, desk.content(4, 7), 1);
        Checks.is("y15", desk, 7, "1 y15");
        Checks.answered("none but a number, in itself", desk, desk.content(5, 5), 1);
        Checks.is("none but a number, in itself", desk, 5, "1");
    }

    private static void promise32OfZero() {
        TermDesk desk = Checks.told("ring prime 5 order lex x y z;poly x;poly 5");
        Checks.answered("ZERO", desk, desk.content(1, 0), 0);
        Checks.is("ZERO", desk, 0, "");
        Checks.due("an act", desk.size(1), 1);
    }

    private static void promise32NoSuchRegister() {
        TermDesk desk = Checks.told("ring prime 5 order lex x y z;poly x + z;poly x y");
        for (int r : NO_REGISTERS) {
            Checks.refused("r " + r, desk, desk.content(r, 7), 1);
            Checks.refused("k " + r, desk, desk.content(1, r), 1);
            Checks.refused("1 ahead of 5", desk, desk.content(0, r), 1);
        }
        nothingDone(desk, 0);
    }

    private static void promise32WithZ() {
        TermDesk desk = Checks.told("ring prime 5 order lex x y z;poly x + z;poly z15");
        Checks.refused("z", desk, desk.content(0, 7), 5);
        Checks.refused("z15", desk, desk.content(1, 7), 5);
        nothingDone(desk, 0);
    }

    // ---- 33: primitive

    private static void promise33ItByItsContent() {
        TermDesk desk = Checks.told("ring prime 5 order rev z x y;poly 3 x2y2 - 3 x2 + 2 x y + 2 x;poly 3 y2 - 3;poly 2 x3;poly 4;"
            + "poly x15y15 + 3 y15;poly x y + 1");
        Checks.answered("three terms", desk, desk.primitive(0, 7), 3);
        Checks.is("three terms", desk, 7, "3 x2 y1 + 2 x2 + 2 x1");
        desk.content(0, 6);
        desk.times(6, 7, 6);
        Checks.due("content times primitive part", desk.same(6, 0), 1);
        Checks.answered("in y alone", desk, desk.primitive(1, 7), 1);
        Checks.is("in y alone", desk, 7, "3");
        Checks.answered("of x3", desk, desk.primitive(2, 7), 1);
        Checks.is("of x3", desk, 7, "2 x3");
        Checks.answered("of a number, in itself", desk, desk.primitive(3, 3), 1);
        Checks.is("of a number, in itself", desk, 3, "4");
        Checks.answered("of x15y15 + 3 y15", desk, desk.primitive(4, 7), 2);
        Checks.is("of x15y15 + 3 y15", desk, 7, "1 x15 + 3");
        Checks.answered("of one that is", desk, desk.primitive(5, 5), 2);
        Checks.is("of one that is", desk, 5, "1 x1 y1 + 1");
    }

    private static void promise33OfZero() {
        TermDesk desk = Checks.told("ring prime 5 order lex x y z;poly x;poly 5");
        Checks.answered("ZERO", desk, desk.primitive(1, 0), 0);
        Checks.is("ZERO", desk, 0, "");
        Checks.due("an act", desk.size(1), 1);
    }

    private static void promise33NoSuchRegister() {
        TermDesk desk = Checks.told("ring prime 5 order lex x y z;poly x + z;poly x y");
        for (int r : NO_REGISTERS) {
            Checks.refused("r " + r, desk, desk.primitive(r, 7), 1);
            Checks.refused("k " + r, desk, desk.primitive(1, r), 1);
            Checks.refused("1 ahead of 5", desk, desk.primitive(0, r), 1);
        }
        nothingDone(desk, 0);
    }

    private static void promise33WithZ() {
        TermDesk desk = Checks.told("ring prime 5 order lex x y z;poly x + z;poly z15");
        Checks.refused("z", desk, desk.primitive(0, 7), 5);
        Checks.refused("z15", desk, desk.primitive(1, 7), 5);
        nothingDone(desk, 0);
    }

    /** x powers by y15 - 1 and one by y - 1: each of them but that has 15 terms in the primitive part. */
    private static void promise33SixtyTermsAndNoMore() {
        for (int more = 0; more < 2; more++) {
            TermDesk desk = Checks.told("ring prime 7 order lex x y z;poly 1");
            int[][] rows = {{0, 15, 1}, {0, 0, 6}, {1, 15, 1}, {1, 0, 6}, {2, 15, 1}, {2, 0, 6}, {3, 15, 1}, {3, 0, 6}};
            if (more == 0) {
                rows[0] = new int[] {0, 14, 1};
                rows[1] = new int[] {0, 0, 6};
            }
            int acts = build(desk, 0, 1, rows);
            desk.scale(0, 1, 4, 1, 0, 2);
            desk.scale(0, 6, 4, 0, 0, 3);
            desk.add(2, 3, 2);
            desk.add(1, 2, 1);
            Checks.due("10 terms", desk.terms(1), 10);
            Checks.due("content y - 1", desk.content(1, 4), 2);
            if (more == 0) {
                Checks.answered("14 and 45 and 1", desk, desk.primitive(1, 7), 60);
            } else {
                Checks.refused("60 and 1", desk, desk.primitive(1, 7), 3);
                nothingDone(desk, Math.min(8, acts + 5));
            }
        }
    }

    // ---- 34: complete

    private static void promise34LaidInTheFirstZero() {
        TermDesk desk = Checks.told("ring prime 7 order lex x y z;poly x y - 1;poly 0;poly y2 - 1");
        Checks.answered("in 1", desk, desk.complete(5), 1);
        Checks.is("in 1", desk, 1, "1 x1 + 6 y1");
        Checks.due("an act", desk.size(1), 1);
        Checks.due("undo", desk.undo(), true);
        Checks.is("undone", desk, 1, "");
        desk = Checks.told("ring prime 7 order lex x y z;poly 0;poly x y - 1;poly y2 - 1");
        Checks.answered("in 0", desk, desk.complete(6), 0);
        Checks.is("in 0", desk, 0, "1 x1 + 6 y1");
        desk = Checks.told("ring prime 7 order lex x y z;poly x y - 1;poly y2 - 1;poly 1;poly 1;poly 1;poly 1");
        desk.add(2, 2, 6);
        Checks.answered("in 7", desk, desk.complete(3), 7);
        Checks.is("in 7", desk, 7, "1 x1 + 6 y1");
    }

    private static void promise34TheFirstPair() {
        TermDesk desk = Checks.told("ring prime 7 order lex x y z;poly x2;poly x2 + x;poly x2 + y15;poly x2 y + y14 z");
        Checks.answered("0 and 1", desk, desk.complete(7), 4);
        Checks.is("0 less 1", desk, 4, "6 x1");
        desk = Checks.told("ring prime 7 order lex x y z;poly x2;poly x2;poly x2 + y;poly x2 + z");
        Checks.answered("0 and 1 have REST ZERO, 0 and 2 not", desk, desk.complete(15), 4);
        Checks.is("0 less 2", desk, 4, "6 y1");
        desk = Checks.told("ring prime 7 order lex x y z;poly x;poly x + y2;poly y2;poly y2 + z");
        Checks.answered("0 and 3 ahead of 2 and 3", desk, desk.complete(14), 4);
        Checks.is("2 less 3", desk, 4, "6 z1");
    }

    private static void promise34RestByTheSet() {
        TermDesk desk = Checks.told("ring prime 7 order lex x y z;poly x2;poly x2 + x + y;poly x + z");
        Checks.answered("complete", desk, desk.complete(7), 3);
        Checks.is("- x - y by x + z", desk, 3, "6 y1 + 1 z1");
    }

    private static void promise34ABasis() {
        TermDesk desk = Checks.told("ring prime 7 order lex x y z;poly x y - 1;poly y2 - 1;poly x - y");
        Checks.answered("three", desk, desk.complete(7), -2);
        Checks.answered("one alone", desk, desk.complete(1), -2);
        Checks.due("no act", desk.size(1), 0);
        Checks.due("registers", desk.about(5), 3);
    }

    private static void promise34NoDesk() {
        TermDesk desk = new TermDesk();
        Checks.refused("complete", desk, desk.complete(1), 1);
        Checks.refused("1 ahead of 2", desk, desk.complete(0), 1);
    }

    private static TermDesk eightFilled() {
        TermDesk desk = Checks.told("ring prime 7 order lex x y z;poly x15 z - y15;poly x y - z;poly z;poly x;poly x z;poly y2 - 1");
        desk.scale(5, 1, 0, 0, 0, 6);
        desk.scale(5, 1, 0, 0, 0, 7);
        return desk;
    }

    private static void promise34SetsFrom1To255() {
        TermDesk desk = Checks.told("ring prime 7 order lex x y z;poly x y - 1;poly y2 - 1");
        TermDesk filled = eightFilled();
        for (int set : NO_SETS) {
            Checks.refused("set " + set, desk, desk.complete(set), 2);
            Checks.refused("2 ahead of 5", filled, filled.complete(set), 2);
        }
        Checks.due("no act", desk.size(1), 0);
    }

    private static void promise34WithZero() {
        TermDesk desk = Checks.told("ring prime 7 order lex x y z;poly x15 z - y15;poly x y - z");
        Checks.refused("one of them", desk, desk.complete(7), 5);
        Checks.refused("ZERO alone", desk, desk.complete(128), 5);
        Checks.refused("3 without it", desk, desk.complete(3), 3);
        Checks.due("no act", desk.size(1), 0);
    }

    private static void promise34NoneIsZeroBesides() {
        TermDesk desk = eightFilled();
        Checks.refused("one is missing", desk, desk.complete(34), 5);
        Checks.refused("also of a BASIS", desk, desk.complete(12), 5);
        Checks.refused("also of one alone", desk, desk.complete(4), 5);
        Checks.refused("also of all", desk, desk.complete(255), 5);
        Checks.refused("5 ahead of 3", desk, desk.complete(3), 5);
        desk.less(7, 7, 7);
        Checks.answered("a BASIS, and one is ZERO", desk, desk.complete(12), -2);
        Checks.refused("NO ROOM, and one is ZERO", desk, desk.complete(3), 3);
    }

    private static void promise34NoRoomUpToIt() {
        TermDesk desk = Checks.told("ring prime 7 order lex x y z;poly x15 z - y15;poly x y - z");
        Checks.refused("in a pair", desk, desk.complete(3), 3);
        desk = Checks.told("ring prime 7 order lex x y z;poly x2z + z;poly x2z;poly x - y8");
        Checks.refused("in its division", desk, desk.complete(5), 3);
        nothingDone(desk, 0);
    }

    private static void promise34NoRoomBehindItIsNotMet() {
        TermDesk desk = Checks.told("ring prime 7 order lex x y z;poly y2;poly y2 + z;poly x15 z - y15;poly x y - z");
        Checks.refused("missing looks at all pairs", desk, desk.missing(15), 3);
        Checks.answered("complete at the first alone", desk, desk.complete(15), 4);
        Checks.is("0 less 1", desk, 4, "6 z1");
    }

    private static void promise34AgainAndAgainToABasis() {
        TermDesk desk = Checks.told("ring prime 7 order deg x y z;poly x3 - 2 x y;poly x2y - 2 y2 + x");
        int set = 3;
        for (int k = 2; k < 5; k++) {
            Checks.answered("one more", desk, desk.complete(set), k);
            set |= 1 << k;
        }
        Checks.answered("a BASIS", desk, desk.complete(set), -2);
        Checks.answered("nothing is missing", desk, desk.missing(set), 0);
        Checks.is("the first", desk, 2, "6 x2");
        Checks.is("the second", desk, 3, "5 x1 y1");
        Checks.is("the third", desk, 4, "5 y2 + 1 x1");
    }

    // ---- 35: order

    private static void promise35Exchanged() {
        TermDesk desk = Checks.told("ring prime 7 order lex x y z;poly x2 + x y z + y4 + z3");
        Checks.answered("deg", desk, desk.order(1, 0, 1), 1);
        Checks.is("deg", desk, 0, "1 y4 + 1 x1 y1 z1 + 1 z3 + 1 x2");
        Checks.answered("rev y x", desk, desk.order(2, 1, 0), 1);
        Checks.is("rev y x", desk, 0, "1 y4 + 1 x1 y1 z1 + 1 z3 + 1 x2");
        Checks.answered("rev y z", desk, desk.order(2, 1, 2), 1);
        Checks.is("rev y z", desk, 0, "1 y4 + 1 z3 + 1 x1 y1 z1 + 1 x2");
        Checks.answered("lex z x", desk, desk.order(0, 2, 0), 1);
        Checks.is("lex z x", desk, 0, "1 z3 + 1 x1 y1 z1 + 1 x2 + 1 y4");
        int[] due = {7, 0, 2, 0, 1, 1};
        for (int what = 0; what < 6; what++) {
            Checks.due("about " + what, desk.about(what), due[what]);
        }
    }

    private static void promise35ItIsThatAlready() {
        TermDesk desk = Checks.told("ring prime 7 order rev y z x;poly x + y");
        Checks.answered("that", desk, desk.order(2, 1, 2), 0);
        Checks.due("an act, too", desk.size(1), 1);
        Checks.answered("another third", desk, desk.order(2, 1, 0), 1);
        Checks.answered("another first", desk, desk.order(2, 2, 0), 1);
        Checks.answered("another how", desk, desk.order(1, 2, 0), 1);
        Checks.answered("that", desk, desk.order(1, 2, 0), 0);
        Checks.due("acts", desk.size(1), 5);
    }

    private static void promise35AllRegistersStandInIt() {
        TermDesk desk = Checks.told("ring prime 7 order lex x y z;poly x + y2");
        for (int k = 1; k < 8; k++) {
            desk.scale(0, k < 7 ? k : 1, 0, 0, 0, k);
        }
        desk.order(1, 0, 1);
        for (int k = 0; k < 8; k++) {
            Checks.due("lead of " + k, desk.term(k, 0, 2), 2);
        }
    }

    private static void promise35SixtyTermsStandInIt() {
        TermDesk desk = Checks.told("ring prime 7 order lex x y z;poly x9+x8+x7+x6+x5+x4+x3+x2+x+1;poly y5+y4+y3+y2+y+1");
        desk.times(0, 1, 2);
        Checks.answered("lex y x", desk, desk.order(0, 1, 0), 1);
        for (int k = 0; k < 60; k++) {
            Checks.due("of y", desk.term(2, k, 2), 5 - k / 10);
            Checks.due("of x", desk.term(2, k, 1), 9 - k % 10);
        }
    }

    private static void promise35NoDesk() {
        TermDesk desk = new TermDesk();
        Checks.refused("order", desk, desk.order(0, 0, 1), 1);
        Checks.refused("1 ahead of 2", desk, desk.order(3, 0, 0), 1);
    }

    private static void promise35NoSuchOrder() {
        TermDesk desk = Checks.told("ring prime 7 order lex x y z;poly x + y2");
        int[][] wrong = {{3, 0, 1}, {-1, 0, 1}, {MAX, 0, 1}, {0, 3, 1}, {0, -1, 1}, {0, MIN, 1}, {0, 0, 3}, {0, 0, -1},
            {0, 0, MAX}, {0, 0, 0}, {1, 1, 1}, {2, 2, 2}, {0, 3, 3}, {0, -1, -1}};
        for (int[] w : wrong) {
            Checks.refused("order", desk, desk.order(w[0], w[1], w[2]), 2);
        }
        Checks.due("no act", desk.size(1), 0);
        Checks.is("as it was", desk, 0, "1 x1 + 1 y2");
    }

    // ---- 36: undo

    private static void promise36Nothing() {
        TermDesk desk = new TermDesk();
        Checks.due("no desk", desk.undo(), false);
        Checks.trouble("no desk", desk, 1);
        Checks.tell(desk, "ring prime 7 order lex x y z;poly x");
        Checks.due("no act yet", desk.undo(), false);
        Checks.trouble("no act yet", desk, 1);
        desk.add(0, 0, 1);
        Checks.due("one", desk.undo(), true);
        Checks.trouble("one", desk, 0);
        Checks.due("no more", desk.undo(), false);
        Checks.trouble("no more", desk, 1);
    }

    private static void promise36EachAct() {
        for (int act = 0; act < 17; act++) {
            TermDesk desk = Checks.told("ring prime 7 order lex x y z;poly x y - 1;poly y2 - 1;poly x;poly x + 1;poly y");
            act(desk, act);
            Checks.trouble("act " + act, desk, 0);
            Checks.due("act " + act, desk.size(1), 1);
            Checks.due("undo of act " + act, desk.undo(), true);
            Checks.is("register 4", desk, 4, "1 y1");
            Checks.is("register 5", desk, 5, "");
            Checks.due("how", desk.about(1), 0);
            Checks.due("size", desk.size(1), 0);
        }
    }

    private static void act(TermDesk desk, int act) {
        switch (act) {
            case 0 -> desk.add(0, 1, 4);
            case 1 -> desk.less(0, 1, 4);
            case 2 -> desk.times(0, 1, 4);
            case 3 -> desk.scale(0, 3, 1, 1, 1, 4);
            case 4 -> desk.monic(0, 4);
            case 5 -> desk.derive(0, 0, 4);
            case 6 -> desk.put(0, 0, 3, 4);
            case 7 -> desk.swap(0, 0, 1, 4);
            case 8 -> desk.rest(0, 8, 4);
            case 9 -> desk.quotient(0, 8, 3, 4);
            case 10 -> desk.pair(0, 1, 4);
            case 11 -> desk.common(0, 1, 4);
            case 12 -> desk.content(1, 4);
            case 13 -> desk.primitive(1, 4);
            case 14 -> desk.complete(3);
            case 15 -> desk.order(1, 1, 0);
            default -> desk.order(0, 0, 1);
        }
    }

    private static void promise36EightAreKept() {
        TermDesk desk = Checks.told("ring prime 97 order lex x y z;poly 1;poly x");
        for (int n = 1; n <= 10; n++) {
            Checks.answered("add", desk, desk.add(0, 1, 0), 2);
            Checks.due("can be undone", desk.size(1), Math.min(n, 8));
        }
        for (int n = 9; n >= 2; n--) {
            Checks.due("undo", desk.undo(), true);
            Checks.is("undo", desk, 0, n + " x1 + 1");
            Checks.due("can be undone", desk.size(1), n - 2);
        }
        Checks.due("8 are kept", desk.undo(), false);
        Checks.is("8 are kept", desk, 0, "2 x1 + 1");
    }

    private static void promise36AlsoIfItWasSo() {
        TermDesk desk = Checks.told("ring prime 7 order lex x y z;poly x;poly y");
        desk.monic(0, 0);
        desk.less(7, 7, 7);
        desk.order(0, 0, 1);
        desk.swap(1, 2, 2, 1);
        Checks.due("four acts", desk.size(1), 4);
        for (int i = 0; i < 4; i++) {
            Checks.due("undo", desk.undo(), true);
        }
        Checks.due("no more", desk.undo(), false);
    }

    private static void promise36WhatIsUndoneIsGone() {
        TermDesk desk = Checks.told("ring prime 7 order lex x y z;poly x;poly y");
        desk.add(0, 1, 5);
        desk.undo();
        desk.times(1, 1, 1);
        Checks.due("one", desk.size(1), 1);
        Checks.due("undo", desk.undo(), true);
        Checks.is("undo", desk, 1, "1 y1");
        Checks.due("undone is undone", desk.undo(), false);
    }

    private static void promise36RefusedCallsAreNoActs() {
        TermDesk desk = Checks.told("ring prime 7 order lex x y z;poly x15;poly y");
        desk.add(0, 1, 2);
        desk.times(0, 0, 2);
        desk.order(3, 0, 1);
        desk.divides(7, 0);
        desk.terms(2);
        Checks.due("undo", desk.undo(), true);
        Checks.is("the add", desk, 2, "");
    }

    private static void promise36OrdersAndRegistersInTurn() {
        TermDesk desk = Checks.told("ring prime 7 order lex x y z;poly x + y2 + z3");
        desk.order(1, 2, 1);
        desk.add(0, 0, 1);
        desk.order(2, 0, 1);
        desk.order(2, 0, 1);
        desk.less(0, 0, 0);
        Checks.due("undo", desk.undo(), true);
        Checks.is("undo", desk, 0, "1 z3 + 1 y2 + 1 x1");
        Checks.due("undo of no exchange", desk.undo(), true);
        Checks.due("rev", desk.about(1), 2);
        Checks.due("undo of an exchange", desk.undo(), true);
        Checks.due("deg", desk.about(1), 1);
        Checks.due("z", desk.about(2), 2);
        Checks.is("doubled", desk, 1, "2 z3 + 2 y2 + 2 x1");
        Checks.due("undo", desk.undo(), true);
        Checks.due("undo", desk.undo(), true);
        Checks.is("lex", desk, 0, "1 x1 + 1 y2 + 1 z3");
        Checks.is("not told", desk, 1, "");
        Checks.due("lex", desk.about(1), 0);
        Checks.due("nothing", desk.undo(), false);
    }

    /** What was kept by one ORDER comes back when that ORDER has come back, and stands in it. */
    private static void promise36KeptAheadOfAnExchange() {
        TermDesk desk = Checks.told("ring prime 7 order lex x y z;poly x + y2;poly z");
        desk.add(0, 1, 0);
        desk.order(1, 0, 1);
        desk.undo();
        desk.undo();
        Checks.is("by lex", desk, 0, "1 x1 + 1 y2");
        Checks.due("coefficient", desk.coefficient(0, 0, 2, 0), 1);
        Checks.due("same", desk.same(0, 0), 1);
    }

    private static void promise36SixtyTermsComeBack() {
        TermDesk desk = Checks.told("ring prime 7 order rev x y z;poly x9+x8+x7+x6+x5+x4+x3+x2+x+1;poly y5+y4+y3+y2+y+1");
        desk.times(0, 1, 2);
        desk.scale(2, 1, 0, 0, 0, 3);
        desk.less(2, 2, 2);
        desk.undo();
        Checks.due("60", desk.terms(2), 60);
        Checks.due("same", desk.same(2, 3), 1);
    }
}
