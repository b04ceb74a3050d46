/** Promises 20 to 27: add, less, times, scale, monic, derive, put, swap. */
public final class Promises20To27Test {
    private static final int MIN = Integer.MIN_VALUE;
    private static final int MAX = Integer.MAX_VALUE;
    private static final int[] NO_REGISTERS = {-1, 8, 255, MIN, MAX};
    private static final int[] NO_UNKNOWNS = {-1, 3, MIN, MAX};
    private static final int[] NO_EXPONENTS = {-1, 16, 31, 32, MIN, MAX};
    private static final String SIX = "ring prime 7 order lex x y z;poly x2 + 3 x y - 1;poly 6 x2 + y3;poly z15;poly 2;poly 5 z;"
        + "poly x14";
    private static final String SIXTY = "ring prime 7 order rev x y z;poly x9+x8+x7+x6+x5+x4+x3+x2+x+1;poly y5+y4+y3+y2+y+1;"
        + "poly z;poly x9;poly z + x9";

    public static void main(String[] args) {
        Checks.promises(Promises20To27Test.class, 20, 27);
    }

    /** A refused call lays nothing and is no ACT. */
    private static void nothingDone(TermDesk desk, int acts) {
        Checks.due("acts", desk.size(1), acts);
        Checks.is("nothing laid", desk, 7, "");
    }

    // ---- 20: add

    private static void promise20Together() {
        TermDesk desk = Checks.told(SIX);
        Checks.answered("add", desk, desk.add(0, 1, 7), 3);
        Checks.is("add", desk, 7, "3 x1 y1 + 1 y3 + 6");
        Checks.answered("the other way", desk, desk.add(1, 0, 6), 3);
        Checks.due("the other way", desk.same(6, 7), 1);
    }

    private static void promise20WithZeroAndItself() {
        TermDesk desk = Checks.told(SIX);
        Checks.answered("ZERO and one", desk, desk.add(7, 0, 7), 3);
        Checks.due("ZERO and one", desk.same(7, 0), 1);
        Checks.answered("itself, in itself", desk, desk.add(1, 1, 1), 2);
        Checks.is("itself, in itself", desk, 1, "5 x2 + 2 y3");
        Checks.answered("two ZERO", desk, desk.add(6, 6, 6), 0);
    }

    private static void promise20AllOfItCancels() {
        TermDesk desk = Checks.told("ring prime 2 order lex x y z;poly x + y + 1");
        Checks.answered("by 2", desk, desk.add(0, 0, 0), 0);
        Checks.is("by 2", desk, 0, "");
    }

    private static void promise20NoSuchRegister() {
        TermDesk desk = Checks.told(SIX);
        for (int r : NO_REGISTERS) {
            Checks.refused("r " + r, desk, desk.add(r, 0, 7), 1);
            Checks.refused("q " + r, desk, desk.add(0, r, 7), 1);
            Checks.refused("k " + r, desk, desk.add(0, 0, r), 1);
        }
        nothingDone(desk, 0);
    }

    private static void promise20SixtyTermsAndNoMore() {
        TermDesk desk = Checks.told(SIXTY);
        desk.times(0, 1, 6);
        Checks.refused("61", desk, desk.add(6, 2, 7), 3);
        Checks.refused("61, the other way", desk, desk.add(2, 6, 7), 3);
        nothingDone(desk, 1);
        Checks.answered("60", desk, desk.add(6, 6, 7), 60);
        desk.less(6, 3, 5);
        Checks.answered("59 and 1", desk, desk.add(5, 2, 7), 60);
        Checks.refused("59 and 2", desk, desk.add(5, 4, 7), 3);
        Checks.due("as before", desk.terms(7), 60);
    }

    // ---- 21: less

    private static void promise21RLessQ() {
        TermDesk desk = Checks.told(SIX);
        Checks.answered("less", desk, desk.less(0, 1, 7), 4);
        Checks.is("less", desk, 7, "2 x2 + 3 x1 y1 + 6 y3 + 6");
        Checks.answered("the other way", desk, desk.less(1, 0, 7), 4);
        Checks.is("the other way", desk, 7, "5 x2 + 4 x1 y1 + 1 y3 + 1");
    }

    private static void promise21WithZeroAndItself() {
        TermDesk desk = Checks.told(SIX);
        Checks.answered("ZERO less one", desk, desk.less(7, 1, 7), 2);
        Checks.is("ZERO less one", desk, 7, "1 x2 + 6 y3");
        Checks.answered("one less ZERO", desk, desk.less(1, 6, 7), 2);
        Checks.due("one less ZERO", desk.same(1, 7), 1);
        Checks.answered("itself, in itself", desk, desk.less(0, 0, 0), 0);
        Checks.is("itself, in itself", desk, 0, "");
        Checks.answered("two ZERO", desk, desk.less(0, 6, 0), 0);
    }

    private static void promise21NoSuchRegister() {
        TermDesk desk = Checks.told(SIX);
        for (int r : NO_REGISTERS) {
            Checks.refused("r " + r, desk, desk.less(r, 0, 7), 1);
            Checks.refused("q " + r, desk, desk.less(0, r, 7), 1);
            Checks.refused("k " + r, desk, desk.less(0, 0, r), 1);
        }
        nothingDone(desk, 0);
    }

    private static void promise21SixtyTermsAndNoMore() {
        TermDesk desk = Checks.told(SIXTY);
        desk.times(0, 1, 6);
        Checks.refused("61", desk, desk.less(6, 2, 7), 3);
        Checks.refused("61, the other way", desk, desk.less(2, 6, 7), 3);
        nothingDone(desk, 1);
        Checks.answered("59", desk, desk.less(6, 3, 7), 59);
        Checks.answered("60", desk, desk.less(7, 2, 7), 60);
    }

    // ---- 22: times

    private static void promise22RTimesQ() {
        TermDesk desk = Checks.told(SIX);
        Checks.answered("times", desk, desk.times(0, 1, 7), 6);
        Checks.is("times", desk, 7, "6 x4 + 4 x3 y1 + 1 x2 y3 + 1 x2 + 3 x1 y4 + 6 y3");
        Checks.answered("by a number, in itself", desk, desk.times(1, 3, 1), 2);
        Checks.is("by a number, in itself", desk, 1, "5 x2 + 2 y3");
        Checks.answered("a square, in itself", desk, desk.times(3, 3, 3), 1);
        Checks.is("a square, in itself", desk, 3, "4");
    }

    private static void promise22WithZero() {
        TermDesk desk = Checks.told(SIX);
        Checks.answered("one by ZERO", desk, desk.times(2, 6, 7), 0);
        Checks.answered("ZERO by one", desk, desk.times(6, 2, 7), 0);
        Checks.answered("two ZERO", desk, desk.times(6, 7, 7), 0);
    }

    private static void promise22ExponentsUpTo15() {
        for (String u : new String[] {"x", "y", "z"}) {
            TermDesk desk = Checks.told("ring prime 7 order deg x y z;poly " + u + "8 + 1;poly " + u + "7 + 1;poly " + u + "15;poly "
                + u + ";poly 3");
            Checks.answered("15", desk, desk.times(0, 1, 6), 4);
            Checks.answered("15 by a number", desk, desk.times(2, 4, 6), 1);
            Checks.is("15 by a number", desk, 6, "3 " + u + "15");
            Checks.refused("16", desk, desk.times(0, 0, 7), 3);
            Checks.refused("16", desk, desk.times(2, 3, 7), 3);
            Checks.refused("30", desk, desk.times(2, 2, 7), 3);
            nothingDone(desk, 2);
        }
    }

    private static void promise22AnExponentAbove15AlsoIfItCancels() {
        TermDesk desk = Checks.told("ring prime 2 order lex x y z;poly x15 + x14;poly x2 + x;poly x8 + y;poly x8 - y");
        Checks.refused("x16 twice", desk, desk.times(0, 1, 7), 3);
        Checks.refused("x16 alone", desk, desk.times(2, 3, 7), 3);
        desk = Checks.told("ring prime 7 order lex x y z;poly x15 + x8y + 1;poly x y + y - x");
        Checks.refused("x16", desk, desk.times(0, 1, 7), 3);
        nothingDone(desk, 0);
    }

    /** 30 terms in x and y by z + 1 are 60; with z put to them, z comes twice and z2 once: 61. */
    private static void promise22SixtyTermsAndNoMore() {
        TermDesk desk = Checks.told("ring prime 7 order rev x y z;poly x5+x4+x3+x2+x+1;poly y4+y3+y2+y+1;poly z;poly z + 1");
        desk.times(0, 1, 5);
        Checks.answered("60", desk, desk.times(5, 3, 6), 60);
        desk.add(5, 2, 5);
        Checks.due("31", desk.terms(5), 31);
        Checks.refused("61", desk, desk.times(5, 3, 7), 3);
        Checks.refused("61, the other way", desk, desk.times(3, 5, 7), 3);
        Checks.refused("far more", desk, desk.times(5, 5, 7), 3);
        nothingDone(desk, 3);
        desk.put(2, 2, 3, 2);
        Checks.answered("60 by a number", desk, desk.times(6, 2, 7), 60);
        Checks.answered("a number by 60", desk, desk.times(2, 6, 7), 60);
    }

    /** The product alone is told of: more TERMS may come and go while it is reckoned. */
    private static void promise22MoreThanSixtyOnTheWay() {
        TermDesk desk = Checks.told("ring prime 2 order rev x y z;poly x7+x6+x5+x4+x3+x2+x+1;poly y7+y6+y5+y4+y3+y2+y+1;poly x + 1;"
            + "poly y + 1");
        desk.times(0, 3, 4);
        desk.times(1, 2, 5);
        Checks.answered("4 terms", desk, desk.times(4, 5, 6), 4);
        Checks.is("4 terms", desk, 6, "1 x8 y8 + 1 x8 + 1 y8 + 1");
    }

    private static void promise22NoSuchRegister() {
        TermDesk desk = Checks.told(SIX);
        for (int r : NO_REGISTERS) {
            Checks.refused("r " + r, desk, desk.times(r, 0, 7), 1);
            Checks.refused("q " + r, desk, desk.times(0, r, 7), 1);
            Checks.refused("k " + r, desk, desk.times(0, 0, r), 1);
            Checks.refused("1 ahead of 3", desk, desk.times(2, 2, r), 1);
        }
        nothingDone(desk, 0);
    }

    // ---- 23: scale

    private static void promise23TimesATerm() {
        TermDesk desk = Checks.told(SIX);
        Checks.answered("scale", desk, desk.scale(0, 3, 1, 2, 15, 7), 3);
        Checks.is("scale", desk, 7, "3 x3 y2 z15 + 2 x2 y3 z15 + 4 x1 y2 z15");
        Checks.answered("by 1", desk, desk.scale(0, 1, 0, 0, 0, 6), 3);
        Checks.due("by 1", desk.same(0, 6), 1);
        Checks.answered("by 6, in itself", desk, desk.scale(1, 6, 0, 0, 0, 1), 2);
        Checks.is("by 6, in itself", desk, 1, "1 x2 + 6 y3");
        Checks.answered("to the greatest", desk, desk.scale(3, 1, 15, 15, 15, 7), 1);
        Checks.is("to the greatest", desk, 7, "2 x15 y15 z15");
    }

    private static void promise23ByZero() {
        TermDesk desk = Checks.told(SIX);
        Checks.answered("by 1", desk, desk.scale(0, 1, 0, 0, 0, 7), 3);
        Checks.answered("by 0", desk, desk.scale(0, 0, 0, 0, 0, 7), 0);
        Checks.answered("by 0 and exponents", desk, desk.scale(0, 0, 1, 2, 3, 7), 0);
        Checks.answered("by 0 where there is no room", desk, desk.scale(0, 0, 15, 0, 0, 7), 0);
        Checks.is("by 0", desk, 7, "");
        Checks.due("acts", desk.size(1), 4);
    }

    private static void promise23OfZero() {
        TermDesk desk = Checks.told(SIX);
        Checks.answered("ZERO", desk, desk.scale(6, 6, 15, 15, 15, 7), 0);
    }

    private static void promise23ExponentsFrom0To15() {
        TermDesk desk = Checks.told(SIX);
        for (int e : NO_EXPONENTS) {
            Checks.refused("x " + e, desk, desk.scale(0, 1, e, 0, 0, 7), 2);
            Checks.refused("y " + e, desk, desk.scale(0, 1, 0, e, 0, 7), 2);
            Checks.refused("z " + e, desk, desk.scale(0, 1, 0, 0, e, 7), 2);
            Checks.refused("by 0", desk, desk.scale(0, 0, 0, 0, e, 7), 2);
            Checks.refused("ZERO", desk, desk.scale(6, 1, e, 0, 0, 7), 2);
        }
        nothingDone(desk, 0);
    }

    private static void promise23CFrom0ToPrimeLess1() {
        TermDesk desk = Checks.told(SIX);
        for (int c : new int[] {-1, 7, 8, MIN, MAX}) {
            Checks.refused("c " + c, desk, desk.scale(0, c, 0, 0, 0, 7), 2);
            Checks.refused("2 ahead of 3", desk, desk.scale(0, c, 15, 0, 0, 7), 2);
        }
        nothingDone(desk, 0);
    }

    private static void promise23NoRoom() {
        TermDesk desk = Checks.told("ring prime 7 order lex x y z;poly x2 + y3 + z4");
        Checks.answered("15", desk, desk.scale(0, 1, 13, 12, 11, 6), 3);
        Checks.refused("x16", desk, desk.scale(0, 1, 14, 0, 0, 7), 3);
        Checks.refused("y16", desk, desk.scale(0, 1, 0, 13, 0, 7), 3);
        Checks.refused("z16", desk, desk.scale(0, 1, 0, 0, 12, 7), 3);
        Checks.refused("x17", desk, desk.scale(0, 6, 15, 0, 0, 7), 3);
        nothingDone(desk, 1);
    }

    private static void promise23NoSuchRegister() {
        TermDesk desk = Checks.told(SIX);
        for (int r : NO_REGISTERS) {
            Checks.refused("r " + r, desk, desk.scale(r, 1, 0, 0, 0, 7), 1);
            Checks.refused("k " + r, desk, desk.scale(0, 1, 0, 0, 0, r), 1);
            Checks.refused("1 ahead of 2", desk, desk.scale(0, 7, 16, 0, 0, r), 1);
        }
        nothingDone(desk, 0);
    }

    // ---- 24: monic

    private static void promise24LeadMadeOne() {
        TermDesk desk = Checks.told(SIX);
        Checks.answered("monic", desk, desk.monic(1, 7), 2);
        Checks.is("monic", desk, 7, "1 x2 + 6 y3");
        desk.order(0, 1, 0);
        Checks.answered("by another order", desk, desk.monic(1, 7), 2);
        Checks.is("by another order", desk, 7, "1 y3 + 6 x2");
        Checks.answered("a number, in itself", desk, desk.monic(3, 3), 1);
        Checks.is("a number, in itself", desk, 3, "1");
    }

    private static void promise24EachCoefficientOfEachPrime() {
        for (int p : new int[] {2, 3, 5, 43, 97}) {
            for (int c = 1; c < p; c++) {
                TermDesk desk = Checks.told("ring prime " + p + " order lex x y z;poly " + c + " x + 1");
                desk.monic(0, 1);
                Checks.due("lead", desk.term(1, 0, 0), 1);
                Checks.due("the other times " + c, desk.term(1, 1, 0) * c % p, 1);
            }
        }
    }

    private static void promise24AlsoIfItWasSo() {
        TermDesk desk = Checks.told(SIX);
        Checks.answered("monic", desk, desk.monic(0, 0), 3);
        Checks.due("an act", desk.size(1), 1);
    }

    private static void promise24OfZero() {
        TermDesk desk = Checks.told(SIX);
        Checks.answered("ZERO", desk, desk.monic(6, 0), 0);
        Checks.is("ZERO", desk, 0, "");
    }

    private static void promise24NoSuchRegister() {
        TermDesk desk = Checks.told(SIX);
        for (int r : NO_REGISTERS) {
            Checks.refused("r " + r, desk, desk.monic(r, 7), 1);
            Checks.refused("k " + r, desk, desk.monic(0, r), 1);
        }
        nothingDone(desk, 0);
    }

    // ---- 25: derive

    private static void promise25ByEachUnknown() {
        TermDesk desk = Checks.told("ring prime 3 order deg x y z;poly x4y + 2x3 + x2 + y z2 + 1");
        Checks.answered("by x", desk, desk.derive(0, 0, 1), 2);
        Checks.is("by x: 2 x3 goes", desk, 1, "1 x3 y1 + 2 x1");
        Checks.answered("by y", desk, desk.derive(0, 1, 1), 2);
        Checks.is("by y", desk, 1, "1 x4 + 1 z2");
        Checks.answered("by z, in itself", desk, desk.derive(0, 2, 0), 1);
        Checks.is("by z, in itself", desk, 0, "2 y1 z1");
    }

    private static void promise25OfZeroAndANumber() {
        TermDesk desk = Checks.told("ring prime 3 order deg x y z;poly 2");
        for (int u = 0; u < 3; u++) {
            Checks.answered("ZERO", desk, desk.derive(7, u, 6), 0);
            Checks.answered("a number", desk, desk.derive(0, u, 6), 0);
        }
    }

    private static void promise25SixtyTerms() {
        TermDesk desk = Checks.told(SIXTY);
        desk.times(0, 1, 7);
        Checks.answered("by x: x7 and 1 go", desk, desk.derive(7, 0, 6), 48);
        Checks.answered("by y", desk, desk.derive(7, 1, 6), 50);
        Checks.answered("by z", desk, desk.derive(7, 2, 6), 0);
    }

    private static void promise25NoSuchUnknown() {
        TermDesk desk = Checks.told(SIX);
        for (int u : NO_UNKNOWNS) {
            Checks.refused("unknown " + u, desk, desk.derive(0, u, 7), 1);
        }
        nothingDone(desk, 0);
    }

    private static void promise25NoSuchRegister() {
        TermDesk desk = Checks.told(SIX);
        for (int r : NO_REGISTERS) {
            Checks.refused("r " + r, desk, desk.derive(r, 0, 7), 1);
            Checks.refused("k " + r, desk, desk.derive(0, 0, r), 1);
        }
        nothingDone(desk, 0);
    }

    // ---- 26: put

    private static void promise26ForEachUnknown() {
        TermDesk desk = Checks.told("ring prime 5 order lex x y z;poly x15 + 3 x y - 2 y z + 4");
        Checks.answered("2 for x", desk, desk.put(0, 0, 2, 2), 3);
        Checks.is("2 for x", desk, 2, "3 y1 z1 + 1 y1 + 2");
        Checks.answered("4 for y", desk, desk.put(0, 1, 4, 2), 4);
        Checks.is("4 for y", desk, 2, "1 x15 + 2 x1 + 2 z1 + 4");
        Checks.answered("3 for z, in itself", desk, desk.put(0, 2, 3, 0), 4);
        Checks.is("3 for z, in itself", desk, 0, "1 x15 + 3 x1 y1 + 4 y1 + 4");
    }

    private static void promise26Nought() {
        TermDesk desk = Checks.told("ring prime 5 order lex x y z;poly x15 + 3 x y - 2 y + 4;poly x2y");
        Checks.answered("0 for x", desk, desk.put(0, 0, 0, 2), 2);
        Checks.is("0 for x", desk, 2, "3 y1 + 4");
        Checks.answered("0 for y", desk, desk.put(1, 1, 0, 2), 0);
        Checks.answered("0 for z: none occurs", desk, desk.put(1, 2, 0, 2), 1);
        Checks.is("0 for z: none occurs", desk, 2, "1 x2 y1");
    }

    private static void promise26TermsComeTogetherAndGo() {
        TermDesk desk = Checks.told("ring prime 5 order rev z x y;poly x - 1;poly x2y + 2 x y + 3 y + z");
        Checks.answered("all go", desk, desk.put(0, 0, 1, 2), 0);
        Checks.answered("three come together", desk, desk.put(1, 0, 1, 2), 2);
        Checks.is("three come together", desk, 2, "1 z1 + 1 y1");
        Checks.answered("and go", desk, desk.put(1, 0, 2, 2), 2);
        Checks.is("1 by 5", desk, 2, "1 z1 + 1 y1");
    }

    private static void promise26SixtyTerms() {
        TermDesk desk = Checks.told(SIXTY);
        desk.times(0, 1, 7);
        Checks.answered("5 for z: none occurs", desk, desk.put(7, 2, 5, 6), 60);
        Checks.due("5 for z: none occurs", desk.same(6, 7), 1);
        Checks.answered("1 for x: 10 are 3", desk, desk.put(7, 0, 1, 6), 6);
        Checks.is("1 for x: 10 are 3", desk, 6, "3 y5 + 3 y4 + 3 y3 + 3 y2 + 3 y1 + 3");
    }

    private static void promise26CFrom0ToPrimeLess1() {
        TermDesk desk = Checks.told(SIX);
        Checks.answered("the greatest", desk, desk.put(5, 0, 6, 6), 1);
        Checks.is("the greatest", desk, 6, "1");
        for (int c : new int[] {-1, 7, 8, MIN, MAX}) {
            Checks.refused("c " + c, desk, desk.put(0, 0, c, 7), 2);
            Checks.refused("ZERO", desk, desk.put(7, 0, c, 7), 2);
        }
        nothingDone(desk, 1);
    }

    private static void promise26NoSuchUnknown() {
        TermDesk desk = Checks.told(SIX);
        for (int u : NO_UNKNOWNS) {
            Checks.refused("unknown " + u, desk, desk.put(0, u, 0, 7), 1);
            Checks.refused("1 ahead of 2", desk, desk.put(0, u, 7, 7), 1);
        }
        nothingDone(desk, 0);
    }

    private static void promise26NoSuchRegister() {
        TermDesk desk = Checks.told(SIX);
        for (int r : NO_REGISTERS) {
            Checks.refused("r " + r, desk, desk.put(r, 0, 0, 7), 1);
            Checks.refused("k " + r, desk, desk.put(0, 0, 0, r), 1);
            Checks.refused("1 ahead of 2", desk, desk.put(0, 0, 7, r), 1);
        }
        nothingDone(desk, 0);
    }

    // ---- 27: swap

    private static void promise27TwoUnknowns() {
        TermDesk desk = Checks.told("ring prime 5 order lex x y z;poly x3 + 2 x y2 + 3 z4");
        Checks.answered("x and y", desk, desk.swap(0, 0, 1, 1), 3);
        Checks.is("x and y", desk, 1, "2 x2 y1 + 1 y3 + 3 z4");
        Checks.answered("z and x", desk, desk.swap(0, 2, 0, 1), 3);
        Checks.is("z and x", desk, 1, "3 x4 + 2 y2 z1 + 1 z3");
        Checks.answered("y and z, in itself", desk, desk.swap(0, 1, 2, 0), 3);
        Checks.is("y and z, in itself", desk, 0, "1 x3 + 2 x1 z2 + 3 y4");
        Checks.answered("z and y", desk, desk.swap(0, 2, 1, 0), 3);
        Checks.is("back", desk, 0, "1 x3 + 2 x1 y2 + 3 z4");
    }

    private static void promise27LikeOnes() {
        TermDesk desk = Checks.told("ring prime 5 order lex x y z;poly x3 + 2 x y2 + 3 z4");
        for (int u = 0; u < 3; u++) {
            Checks.answered("u and u", desk, desk.swap(0, u, u, 1), 3);
            Checks.due("none does", desk.same(0, 1), 1);
        }
        Checks.due("acts, too", desk.size(1), 3);
    }

    private static void promise27OfZeroAndTheGreatest() {
        TermDesk desk = Checks.told("ring prime 5 order lex x y z;poly x15 + 1");
        Checks.answered("ZERO", desk, desk.swap(7, 0, 1, 7), 0);
        Checks.answered("x15", desk, desk.swap(0, 0, 2, 7), 2);
        Checks.is("z15", desk, 7, "1 z15 + 1");
    }

    private static void promise27NoSuchUnknown() {
        TermDesk desk = Checks.told(SIX);
        for (int u : NO_UNKNOWNS) {
            Checks.refused("unknown " + u, desk, desk.swap(0, u, 0, 7), 1);
            Checks.refused("other " + u, desk, desk.swap(0, 0, u, 7), 1);
            Checks.refused("both " + u, desk, desk.swap(0, u, u, 7), 1);
        }
        nothingDone(desk, 0);
    }

    private static void promise27NoSuchRegister() {
        TermDesk desk = Checks.told(SIX);
        for (int r : NO_REGISTERS) {
            Checks.refused("r " + r, desk, desk.swap(r, 0, 1, 7), 1);
            Checks.refused("k " + r, desk, desk.swap(0, 0, 1, r), 1);
        }
        nothingDone(desk, 0);
    }
}
