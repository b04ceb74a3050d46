/** Promises 17 to 19: divided, divides, missing, with what it is to DIVIDE, NO ROOM, a PAIR and a BASIS. */
public final class Promises17To19Test {
    private static final int MIN = Integer.MIN_VALUE;
    private static final int MAX = Integer.MAX_VALUE;
    private static final int[] NO_REGISTERS = {-1, 8, 255, MIN, MAX};
    private static final int[] NO_SETS = {0, 256, 257, 511, -1, -255, MIN, MAX};
    private static final String TEXTBOOK = "ring prime 7 order lex x y z;poly x2y + x y2 + y2;poly 2 x y - 2;poly y2 - 1";

    public static void main(String[] args) {
        Checks.promises(Promises17To19Test.class, 17, 19);
    }

    private static void divided(String call, TermDesk desk, int r, int set, int... due) {
        for (int what = 0; what < 4; what++) {
            Checks.answered(call + ": divided " + what, desk, desk.divided(r, set, what), due[what]);
        }
    }

    private static void noRoom(String call, TermDesk desk, int r, int set) {
        for (int what = 0; what < 4; what++) {
            Checks.refused(call + ": divided " + what, desk, desk.divided(r, set, what), 3);
        }
    }

    // ---- 17: divided

    private static void promise17EachWhat() {
        divided("the textbook's", Checks.told(TEXTBOOK), 0, 6, 6, 3, 3, 3);
    }

    private static void promise17TheFirstDivisorByNumbers() {
        TermDesk desk = Checks.told("ring prime 5 order deg x y z;poly x2 y2;poly x2 + 1;poly y2 + 1;poly x y + z");
        divided("by all", desk, 0, 14, 3, 1, 2, 1);
        divided("by the first alone", desk, 0, 2, 2, 1, 1, 1);
        desk.quotient(0, 14, 1, 4);
        Checks.is("quotient of the first", desk, 4, "1 y2");
        desk.quotient(0, 14, 2, 4);
        Checks.is("quotient of the second", desk, 4, "4");
        desk.quotient(0, 12, 2, 4);
        Checks.is("quotient of the second without the first", desk, 4, "1 x2");
    }

    private static void promise17NoExponentGreaterDivides() {
        TermDesk desk = Checks.told("ring prime 5 order lex x y z;poly x15y15z15;poly x15y15z15;poly x3y2z;poly x2y3z;poly x3y2z2");
        divided("the greatest by itself", desk, 0, 2, 1, 0, 1, 1);
        divided("like exponents", desk, 2, 4, 1, 0, 1, 1);
        divided("one of y more", desk, 2, 8, 1, 1, 0, 1);
        divided("one of z more", desk, 2, 16, 1, 1, 0, 1);
        divided("one of x less", desk, 3, 4, 1, 1, 0, 1);
        divided("one of z less", desk, 4, 4, 1, 0, 1, 1);
        divided("a number divides all", Checks.told("ring prime 5 order lex x y z;poly x + y;poly 2"), 0, 2, 2, 0, 2, 2);
    }

    private static void promise17OfZero() {
        divided("ZERO", Checks.told(TEXTBOOK), 7, 6, 0, 0, 0, 0);
    }

    private static void promise17ByItself() {
        TermDesk desk = Checks.told(TEXTBOOK);
        divided("alone", desk, 0, 1, 1, 0, 1, 3);
        divided("with others behind it", desk, 0, 7, 1, 0, 1, 3);
    }

    private static void promise17ByAllEight() {
        TermDesk desk = Checks.told("ring prime 5 order lex x y z;poly x y z + 1;poly x15;poly y15;poly z15;poly x14;poly y14");
        desk.scale(3, 1, 0, 0, 0, 6);
        desk.scale(3, 1, 0, 0, 0, 7);
        divided("set 255", desk, 0, 255, 1, 0, 1, 2);
        divided("set 254", desk, 0, 254, 2, 2, 0, 2);
        divided("set 128", desk, 6, 128, 1, 0, 1, 1);
    }

    private static void promise17TheMostOfLeftAsItIsAtFirst() {
        TermDesk desk = Checks.told("ring prime 5 order lex x y z;poly x + y + z + 1;poly x - y;poly x - z8 - z7 - z6 - z5");
        divided("the second is the most", desk, 0, 4, 8, 7, 1, 7);
        divided("the first is the most", desk, 0, 2, 4, 3, 1, 4);
    }

    private static void promise17TheMostOfLeftOnTheWay() {
        TermDesk desk = Checks.told("ring prime 5 order lex x y z;poly x2;poly x - y - z");
        divided("it grows to y2 + 2 y z + z2", desk, 0, 2, 6, 3, 3, 3);
    }

    private static void promise17IsNoAct() {
        TermDesk desk = Checks.told(TEXTBOOK);
        desk.divided(0, 6, 0);
        Checks.due("size", desk.size(1), 0);
        Checks.is("register 0", desk, 0, "1 x2 y1 + 1 x1 y2 + 1 y2");
    }

    private static void promise17ByTheOrderAsItIsNow() {
        TermDesk desk = Checks.told("ring prime 5 order lex x y z;poly x y;poly x + z");
        divided("x is ahead", desk, 0, 2, 2, 1, 1, 1);
        desk.order(0, 2, 0);
        divided("z is ahead", desk, 0, 2, 1, 1, 0, 1);
    }

    private static void promise17NoSuchRegister() {
        TermDesk desk = Checks.told(TEXTBOOK);
        for (int r : NO_REGISTERS) {
            Checks.refused("register " + r, desk, desk.divided(r, 6, 0), 1);
            Checks.refused("1 ahead of 2", desk, desk.divided(r, 0, 0), 1);
            Checks.refused("1 ahead of 5", desk, desk.divided(r, 255, 0), 1);
        }
    }

    private static void promise17NoSuchWhat() {
        TermDesk desk = Checks.told(TEXTBOOK);
        for (int what : new int[] {-1, 4, MIN, MAX}) {
            Checks.refused("what " + what, desk, desk.divided(0, 6, what), 1);
            Checks.refused("1 ahead of 2", desk, desk.divided(0, 0, what), 1);
            Checks.refused("1 ahead of 5", desk, desk.divided(0, 255, what), 1);
        }
    }

    private static void promise17SetsFrom1To255() {
        TermDesk desk = Checks.told(TEXTBOOK);
        for (int set : NO_SETS) {
            Checks.refused("set " + set, desk, desk.divided(0, set, 0), 2);
        }
    }

    private static void promise17ADivisorIsZero() {
        TermDesk desk = Checks.told(TEXTBOOK);
        for (int set : new int[] {8, 9, 128, 129, 255}) {
            Checks.refused("set " + set, desk, desk.divided(0, set, 0), 5);
        }
        Checks.refused("ZERO by itself", desk, desk.divided(7, 128, 0), 5);
        desk.less(0, 0, 0);
        for (int set : new int[] {1, 3, 7}) {
            Checks.refused("the first is ZERO, set " + set, desk, desk.divided(1, set, 0), 5);
            Checks.refused("the first is ZERO, set " + set, desk, desk.missing(set), 5);
        }
        Checks.answered("without it", desk, desk.divided(1, 6, 0), 1);
    }

    private static void promise17ZeroIsMetAheadOfNoRoom() {
        TermDesk desk = Checks.told("ring prime 5 order lex x y z;poly x2;poly x - y8");
        noRoom("y16", desk, 0, 2);
        Checks.refused("5 ahead of 3", desk, desk.divided(0, 130, 0), 5);
    }

    private static void promise17NoRoomForExponentsAbove15() {
        String[] units = {"x", "y", "z"};
        for (int u = 0; u < 3; u++) {
            String a = units[u];
            String b = units[(u + 1) % 3];
            String c = units[(u + 2) % 3];
            TermDesk desk = Checks.told("ring prime 5 order lex " + a + " " + b + " " + c + ";poly " + a + "2;poly " + a + "-" + b
                + "8;poly " + a + "-" + b + "7;poly " + a + "15" + c + ";poly " + a + "14 - " + c + "15;poly " + a + "14 - "
                + c + "14");
            noRoom(b + "16", desk, 0, 2);
            divided(b + "14", desk, 0, 4, 3, 1, 2, 1);
            noRoom(c + "16", desk, 3, 16);
            divided(c + "15", desk, 3, 32, 2, 1, 1, 1);
        }
    }

    /** Divided by z - (59 terms), z and one or two others: LEFT has 60 or 61 terms behind one STEP. */
    private static void promise17NoRoomForMoreThan60TermsOfLeft() {
        TermDesk desk = Checks.told("ring prime 7 order lex z x y;poly x9+x8+x7+x6+x5+x4+x3+x2+x+1;poly y5+y4+y3+y2+y+1;"
            + "poly z + 1;poly z + x15;poly z + x15 + x14");
        desk.times(0, 1, 5);
        desk.less(5, 2, 5);
        Checks.due("59 terms and z", desk.terms(5), 60);
        divided("60 of LEFT", desk, 3, 32, 61, 60, 1, 60);
        noRoom("61 of LEFT", desk, 4, 32);
    }

    private static void promise17NoRoomForMoreThan60TermsOfAQuotient() {
        TermDesk desk = Checks.told("ring prime 3 order lex x y z;poly x - y;poly x15z3 + x15z2 + x15z + x15;poly x y14z4");
        divided("60", desk, 1, 1, 64, 4, 60, 4);
        desk.add(1, 2, 1);
        noRoom("61", desk, 1, 1);
    }

    private static void promise17NoRoomForMoreThan60TermsOfTheRest() {
        TermDesk desk = Checks.told("ring prime 3 order lex y x z;poly x - z11-z10-z9-z8-z7-z6-z5-z4-z3-z2-z;"
            + "poly y4x + y3x + y2x + y x + x + y4 + y3 + y2 + y + 1;poly y15");
        divided("60", desk, 1, 1, 65, 60, 5, 20);
        desk.add(1, 2, 1);
        noRoom("61", desk, 1, 1);
    }

    /** LEFT may have its 60 terms from the first, and QUOTIENTS of several more than 60 together. */
    private static void promise17SixtyOfEach() {
        TermDesk desk = Checks.told("ring prime 7 order lex x y z;poly x9+x8+x7+x6+x5+x4+x3+x2+x+1;poly y5+y4+y3+y2+y+1;poly 3;"
            + "poly z");
        desk.times(0, 1, 7);
        divided("60 by a number", desk, 7, 4, 60, 0, 60, 60);
        divided("60 by z", desk, 7, 8, 60, 60, 0, 60);
        divided("60 of one quotient, 4 of another", Checks.told("ring prime 3 order lex x y z;poly x - y;poly y15;"
            + "poly x15z3 + x15z2 + x15z + x15"), 2, 3, 64, 0, 64, 4);
    }

    // ---- 18: divides

    private static void promise18OneOrZero() {
        TermDesk desk = Checks.told("ring prime 7 order lex x y z;poly x2 - y2;poly 3 x + 3 y;poly x + z;poly 5;poly x");
        Checks.answered("x + y divides x2 - y2", desk, desk.divides(1, 0), 1);
        Checks.answered("not the other way", desk, desk.divides(0, 1), 0);
        Checks.answered("x + z does not", desk, desk.divides(2, 0), 0);
        Checks.answered("a number divides", desk, desk.divides(3, 0), 1);
        Checks.answered("x divides no number", desk, desk.divides(4, 3), 0);
        Checks.answered("itself", desk, desk.divides(0, 0), 1);
    }

    private static void promise18OfZero() {
        TermDesk desk = Checks.told("ring prime 7 order lex x y z;poly x2 - y2");
        Checks.answered("ZERO is divided by any", desk, desk.divides(0, 7), 1);
    }

    private static void promise18ByZero() {
        TermDesk desk = Checks.told("ring prime 7 order lex x y z;poly x2 - y2");
        Checks.refused("one by ZERO", desk, desk.divides(7, 0), 5);
        Checks.refused("ZERO by ZERO", desk, desk.divides(7, 6), 5);
        Checks.refused("ZERO by itself", desk, desk.divides(7, 7), 5);
    }

    private static void promise18NoSuchRegister() {
        TermDesk desk = Checks.told("ring prime 7 order lex x y z;poly x2 - y2");
        for (int r : NO_REGISTERS) {
            Checks.refused("r " + r, desk, desk.divides(r, 0), 1);
            Checks.refused("of " + r, desk, desk.divides(0, r), 1);
            Checks.refused("1 ahead of 5", desk, desk.divides(7, r), 1);
        }
    }

    private static void promise18NoRoom() {
        TermDesk desk = Checks.told("ring prime 5 order lex x y z;poly x2;poly x - y8;poly x3 - y15");
        Checks.refused("y16", desk, desk.divides(1, 0), 3);
        Checks.refused("y16, though REST would not be ZERO", desk, desk.divides(1, 2), 3);
    }

    private static void promise18IsNoAct() {
        TermDesk desk = Checks.told("ring prime 7 order lex x y z;poly x2;poly x");
        desk.divides(1, 0);
        Checks.due("size", desk.size(1), 0);
    }

    // ---- 19: missing

    private static void promise19HowManyPairs() {
        TermDesk desk = Checks.told("ring prime 7 order lex x y z;poly x y - 1;poly y2 - 1;poly x - y;poly x2 + x;poly x2");
        Checks.answered("one of one pair", desk, desk.missing(3), 1);
        Checks.answered("none of three", desk, desk.missing(7), 0);
        Checks.answered("leads without an unknown in common", desk, desk.missing(6), 0);
        desk = Checks.told("ring prime 7 order lex x y z;poly x2 + y;poly x2 + z;poly x2;poly x2 + 1");
        Checks.answered("three of three", desk, desk.missing(7), 3);
        Checks.answered("six of six", desk, desk.missing(15), 6);
    }

    private static void promise19OneAlone() {
        TermDesk desk = Checks.told("ring prime 7 order lex x y z;poly x y - 1;poly 3");
        Checks.answered("no pair", desk, desk.missing(1), 0);
        Checks.answered("no pair", desk, desk.missing(2), 0);
    }

    private static void promise19AllEight() {
        TermDesk desk = Checks.told("ring prime 7 order lex x y z;poly x;poly y;poly z;poly x y;poly x z;poly y z");
        Checks.refused("two are ZERO", desk, desk.missing(255), 5);
        desk.add(0, 1, 6);
        desk.add(0, 2, 7);
        Checks.answered("28 pairs", desk, desk.missing(255), 0);
    }

    private static void promise19IsNoAct() {
        TermDesk desk = Checks.told("ring prime 7 order lex x y z;poly x y - 1;poly y2 - 1");
        Checks.answered("missing", desk, desk.missing(3), 1);
        Checks.due("size", desk.size(1), 0);
        Checks.due("registers", desk.about(5), 2);
    }

    private static void promise19NoDesk() {
        TermDesk desk = new TermDesk();
        Checks.refused("missing", desk, desk.missing(1), 1);
        Checks.refused("1 ahead of 2", desk, desk.missing(256), 1);
    }

    private static void promise19SetsFrom1To255() {
        TermDesk desk = Checks.told("ring prime 7 order lex x y z;poly x y - 1;poly y2 - 1");
        for (int set : NO_SETS) {
            Checks.refused("set " + set, desk, desk.missing(set), 2);
        }
    }

    private static void promise19WithZero() {
        TermDesk desk = Checks.told("ring prime 7 order lex x y z;poly x y - 1;poly y2 - 1");
        Checks.refused("one of three", desk, desk.missing(7), 5);
        Checks.refused("ZERO alone", desk, desk.missing(128), 5);
        desk = Checks.told("ring prime 7 order lex x y z;poly x15 z - y15;poly x y - z");
        Checks.refused("5 ahead of 3", desk, desk.missing(7), 5);
    }

    private static void promise19NoRoomForAPairsExponents() {
        TermDesk desk = Checks.told("ring prime 7 order lex x y z;poly x15 z - y15;poly x y - z;poly x15 z - y14");
        Checks.refused("y16", desk, desk.missing(3), 3);
        Checks.answered("y15", desk, desk.missing(6), 1);
    }

    /** PAIR of z + 30 terms in x and y and x6 + 30 or 31 such terms: 60 or 61 terms. */
    private static void promise19NoRoomForAPairsTerms() {
        TermDesk desk = Checks.told("ring prime 7 order lex z x y;poly x5+x4+x3+x2+x+1;poly y4+y3+y2+y+1;poly z;"
            + "poly x6;poly y10");
        desk.times(0, 1, 6);
        desk.add(6, 2, 7);
        desk.add(6, 3, 6);
        Checks.due("31 and 31 terms", desk.terms(6) + desk.terms(7), 62);
        Checks.answered("60 terms", desk, desk.pair(6, 7, 0), 60);
        desk.add(6, 4, 6);
        Checks.refused("61 terms", desk, desk.pair(6, 7, 0), 3);
        Checks.refused("missing", desk, desk.missing(192), 3);
    }

    private static void promise19NoRoomInAPairsDivision() {
        TermDesk desk = Checks.told("ring prime 7 order lex x y z;poly x - y8;poly x + y;poly x2z + z;poly x2 z + y");
        Checks.refused("y16", desk, desk.missing(5), 3);
        desk = Checks.told("ring prime 7 order lex x y z;poly x2z + z;poly x2z + y;poly x - y8");
        Checks.refused("y16 in the second pair, the first has a REST", desk, desk.missing(7), 3);
    }

    /**
     * x15 y - x15 f(z) - x14 y7 makes a grid of TERMS of the PAIR with the last one, and the six
     * between them take all of these two powers of x down at a time: all QUOTIENTS, REST and LEFT
     * keep to 60 TERMS, and STEPS are exactly 500 or 501.
     */
    private static TermDesk eight(int prime, String first, String last) {
        TermDesk desk = Checks.told("ring prime " + prime + " order lex x y z;poly " + first + ";poly x2 - 1;poly " + last);
        desk.scale(2, 1, 0, 0, 0, 7);
        for (int k = 6; k >= 1; k--) {
            desk.scale(1, 1, 14 - 2 * k, 0, 0, k);
        }
        return desk;
    }

    private static void promise19FiveHundredSteps() {
        TermDesk desk = eight(11, "x15y - x15 - x15z - 4x15z2 - x14y7", "x2y7 + x2");
        Checks.is("the first", desk, 0, "1 x15 y1 + 7 x15 z2 + 10 x15 z1 + 10 x15 + 10 x14 y7");
        Checks.is("one between them", desk, 6, "1 x4 + 10 x2");
        Checks.answered("500 steps", desk, desk.missing(255), 7);
    }

    private static void promise19NoRoomForMoreThan500Steps() {
        TermDesk desk = eight(13, "x15y - x15 - 2x15z - x15z2 - x14y7", "x2y7 - 5x2y3z");
        Checks.refused("501 steps", desk, desk.missing(255), 3);
    }
}
