/** Promises 37 to 39: constant, size, trouble. */
public final class Promises37To39Test {
    private static final int MIN = Integer.MIN_VALUE;
    private static final int MAX = Integer.MAX_VALUE;

    public static void main(String[] args) {
        Checks.promises(Promises37To39Test.class, 37, 39);
    }

    // ---- 37: constant

    private static void promise37ByNumbers() {
        TermDesk desk = Checks.told("ring prime 7 order lex x y z;poly x;poly 3;poly 7;poly x + 1;poly 8;poly z");
        Checks.due("0", Checks.constantOrNone(desk, 0), 1);
        Checks.due("1", Checks.constantOrNone(desk, 1), 4);
        desk.put(0, 0, 2, 0);
        Checks.due("a lesser one comes first", Checks.constantOrNone(desk, 0), 0);
        desk.put(5, 2, 2, 7);
        Checks.due("3", Checks.constantOrNone(desk, 3), 7);
        desk.order(2, 2, 0);
        Checks.due("by another order", Checks.constantOrNone(desk, 1), 1);
    }

    private static void promise37AllEight() {
        TermDesk desk = Checks.told("ring prime 7 order lex x y z;poly 1;poly 2;poly 3;poly 4;poly 5;poly 6");
        desk.add(0, 0, 6);
        desk.add(0, 0, 7);
        for (int i = 0; i < 8; i++) {
            Checks.due("constant " + i, Checks.constantOrNone(desk, i), i);
        }
        Checks.due("constant 8", Checks.constantOrNone(desk, 8), -1);
    }

    private static void promise37NoneSuch() {
        TermDesk desk = Checks.told("ring prime 7 order lex x y z;poly x;poly 3;poly 7;poly x + 1;poly 8;poly z");
        for (int i : new int[] {-1, 2, 3, 8, MIN, MAX}) {
            Checks.due("constant " + i, Checks.constantOrNone(desk, i), -1);
        }
    }

    private static void promise37ZeroIsNone() {
        TermDesk desk = Checks.told("ring prime 7 order lex x y z;poly 0;poly 7");
        Checks.due("constant 0", Checks.constantOrNone(desk, 0), -1);
    }

    private static void promise37OneTermWithoutAnyUnknown() {
        for (String poly : new String[] {"x", "y", "z", "x + 1", "2 y + 3", "z15", "x y z"}) {
            TermDesk desk = Checks.told("ring prime 7 order lex x y z;poly " + poly);
            Checks.due("constant of " + poly, Checks.constantOrNone(desk, 0), -1);
        }
    }

    private static void promise37NoDesk() {
        TermDesk desk = new TermDesk();
        Checks.due("constant 0", Checks.constantOrNone(desk, 0), -1);
        Checks.due("constant -1", Checks.constantOrNone(desk, -1), -1);
    }

    private static void promise37TellsNoTrouble() {
        TermDesk desk = Checks.told("ring prime 7 order lex x y z;poly 3");
        desk.put(0, 0, 9, 0);
        Checks.due("constant 0", Checks.constantOrNone(desk, 0), 0);
        Checks.trouble("constant 0", desk, 2);
        Checks.due("constant 1", Checks.constantOrNone(desk, 1), -1);
        Checks.trouble("constant 1", desk, 2);
    }

    // ---- 38: size

    private static void promise38BytesOfTheTape() {
        TermDesk desk = new TermDesk();
        Checks.due("none", desk.size(0), 0);
        for (int i = 1; i <= 35; i++) {
            desk.feed(0, 0, 0, 0, 0);
            Checks.due("bytes", desk.size(0), 20 * i);
        }
        desk.feed(0, 0, 0, 0, 0);
        Checks.due("no more", desk.size(0), 700);
        desk.desk(701);
        Checks.due("they stay", desk.size(0), 700);
        desk.desk(0);
        Checks.due("they are gone", desk.size(0), 0);
    }

    private static void promise38WhatCanBeUndone() {
        TermDesk desk = Checks.told("ring prime 7 order lex x y z;poly x");
        for (int i = 1; i <= 10; i++) {
            desk.add(0, 0, 1);
            Checks.due("acts", desk.size(1), Math.min(i, 8));
        }
        for (int i = 7; i >= 0; i--) {
            desk.undo();
            Checks.due("acts", desk.size(1), i);
        }
        desk.undo();
        Checks.due("acts", desk.size(1), 0);
    }

    private static void promise38TermsOfAllRegisters() {
        TermDesk desk = Checks.told("ring prime 7 order lex x y z;poly x;poly y + z;poly 7");
        Checks.due("three", desk.size(2), 3);
        desk.add(0, 1, 7);
        Checks.due("six", desk.size(2), 6);
        desk = Checks.told("ring prime 7 order lex x y z;poly x9+x8+x7+x6+x5+x4+x3+x2+x+1;poly y5+y4+y3+y2+y+1");
        desk.times(0, 1, 0);
        for (int k = 1; k < 8; k++) {
            desk.add(0, 0, k);
        }
        Checks.due("all eight full", desk.size(2), 480);
    }

    private static void promise38Others() {
        TermDesk desk = Checks.told("ring prime 7 order lex x y z;poly x");
        for (int what : new int[] {-1, 3, 4, MIN, MAX}) {
            Checks.due("size " + what, desk.size(what), -1);
            Checks.due("size " + what + " without desk", new TermDesk().size(what), -1);
        }
    }

    private static void promise38NoughtForWhatThereIsnt() {
        TermDesk desk = new TermDesk();
        for (int what = 0; what < 3; what++) {
            Checks.due("size " + what, desk.size(what), 0);
        }
        Checks.tell(desk, "?");
        for (int what = 0; what < 3; what++) {
            Checks.due("size " + what, desk.size(what), 0);
        }
    }

    private static void promise38TellsNoTrouble() {
        TermDesk desk = Checks.told("ring prime 7 order lex x y z;poly x");
        desk.terms(8);
        desk.size(0);
        Checks.trouble("size 0", desk, 1);
        desk.size(9);
        Checks.trouble("size 9", desk, 1);
        desk.terms(0);
        desk.size(9);
        Checks.trouble("size 9", desk, 0);
    }

    // ---- 39: trouble

    private static void promise39EachNumber() {
        TermDesk desk = new TermDesk();
        Checks.due("new", desk.trouble(), 0);
        Checks.tell(desk, "ring prime 7 order lex x y z;poly x15;poly y");
        Checks.due("a desk", desk.trouble(), 0);
        Checks.refused("1", desk, desk.terms(8), 1);
        Checks.refused("2", desk, desk.coefficient(0, 16, 0, 0), 2);
        Checks.refused("3", desk, desk.times(0, 0, 0), 3);
        Checks.refused("4", desk, Checks.tell(desk, "?"), 4);
        Checks.refused("5", desk, desk.divides(7, 0), 5);
        Checks.answered("0", desk, desk.terms(0), 1);
    }

    private static void promise39AskedOften() {
        TermDesk desk = Checks.told("ring prime 7 order lex x y z;poly x15");
        Checks.refused("times", desk, desk.times(0, 0, 0), 3);
        Checks.due("again", desk.trouble(), 3);
        Checks.due("again", desk.trouble(), 3);
    }

    private static void promise39CallsThatMayNotBeRefusedLeaveIt() {
        TermDesk desk = Checks.told("ring prime 7 order lex x y z;poly x15;poly 1");
        Checks.refused("times", desk, desk.times(0, 0, 0), 3);
        desk.feed(0, 0, 0, 0, 0);
        desk.fault();
        desk.where();
        desk.size(0);
        desk.size(9);
        Checks.constantOrNone(desk, 0);
        Checks.constantOrNone(desk, 9);
        Checks.trouble("behind all of them", desk, 3);
    }

    private static void promise39OfUndo() {
        TermDesk desk = Checks.told("ring prime 7 order lex x y z;poly x");
        desk.add(0, 0, 1);
        desk.coefficient(0, 16, 0, 0);
        Checks.due("undo", desk.undo(), true);
        Checks.trouble("undo", desk, 0);
        Checks.due("undo", desk.undo(), false);
        Checks.trouble("undo", desk, 1);
    }

    private static void promise39OfAnswersThatLookRefused() {
        TermDesk desk = Checks.told("ring prime 7 order lex x y z;poly x y - 1;poly y2 - 1;poly x - y");
        Checks.answered("ahead", desk, desk.ahead(0, 0, 0, 1, 0, 0), -1);
        Checks.answered("degree", desk, desk.degree(7), -2);
        Checks.answered("degreeIn", desk, desk.degreeIn(7, 0), -2);
        Checks.answered("leadBy", desk, desk.leadBy(7, 0, 0, 1), -2);
        Checks.answered("complete", desk, desk.complete(7), -2);
    }

    private static void promise39MetInTheOrder1253() {
        TermDesk desk = Checks.told("ring prime 5 order lex x y z;poly x2;poly x - y8;poly x15z - y15;poly x y - z");
        Checks.refused("1, 2", desk, desk.divided(8, 256, 0), 1);
        Checks.refused("1, 5", desk, desk.divided(0, 130, 4), 1);
        Checks.refused("1, 3", desk, desk.divided(0, 2, 4), 1);
        Checks.refused("2, 3", desk, desk.quotient(0, 2, 0, 7), 2);
        Checks.refused("2, 5", desk, desk.quotient(0, 128, 0, 7), 2);
        Checks.refused("5, 3", desk, desk.divided(0, 130, 0), 5);
        Checks.refused("5, 3 of a set's pairs", desk, desk.missing(140), 5);
        Checks.refused("3 alone", desk, desk.missing(12), 3);
        Checks.refused("1, 3 of a product", desk, desk.times(2, 2, 8), 1);
        Checks.refused("2, 3 of a scaling", desk, desk.scale(2, 5, 15, 0, 0, 7), 2);
        Checks.refused("1, 2 of a scaling", desk, desk.scale(2, 5, 15, 0, 0, 8), 1);
        Checks.due("no act", desk.size(1), 0);
    }

    private static void promise39SetsAreBits() {
        TermDesk desk = Checks.told("ring prime 5 order lex x y z;poly x;poly y;poly z;poly 1;poly x y;poly x z");
        desk.times(1, 2, 6);
        desk.times(4, 2, 7);
        for (int r = 0; r < 8; r++) {
            Checks.answered("bit " + r, desk, desk.divided(r, 1 << r, 1), 0);
        }
        Checks.answered("1", desk, desk.missing(1), 0);
        Checks.answered("255", desk, desk.missing(255), 0);
        Checks.refused("0", desk, desk.missing(0), 2);
        Checks.refused("256", desk, desk.missing(256), 2);
    }
}
