/** Promises 17 to 19, 28, 29, 34: divided, divides, missing, rest, quotient, complete. */
public final class DivisionTest {
    public static void main(String[] args) {
        textbook();
        firstDivisorFirst();
        refusals();
        exponentsAboveFifteen();
        manyTerms();
        manySteps();
        bases();
        completing();
        completingRefused();
        Checks.end("DivisionTest");
    }

    private static void textbook() {
        TermDesk desk = Checks.told("ring prime 7 order lex x y z;poly x2y + x y2 + y2;poly 2 x y - 2;poly y2 - 1");
        int[] due = {6, 3, 3, 3};
        for (int what = 0; what < 4; what++) {
            Checks.answered("divided " + what, desk, desk.divided(0, 6, what), due[what]);
        }
        Checks.due("what would be is no act", desk.size(1), 0);
        Checks.answered("rest", desk, desk.rest(0, 6, 3), 3);
        Checks.is("rest", desk, 3, "1 x1 + 1 y1 + 1");
        Checks.answered("quotient of 1", desk, desk.quotient(0, 6, 1, 4), 2);
        Checks.is("quotient of 1", desk, 4, "4 x1 + 4 y1");
        Checks.answered("quotient of 2", desk, desk.quotient(0, 6, 2, 5), 1);
        Checks.is("quotient of 2", desk, 5, "1");
        Checks.answered("rest in itself", desk, desk.rest(0, 6, 0), 3);
        Checks.is("rest in itself", desk, 0, "1 x1 + 1 y1 + 1");
        Checks.answered("divided by itself", desk, desk.divided(0, 7, 0), 1);
        Checks.answered("quotient of itself in it", desk, desk.quotient(0, 7, 0, 0), 1);
        Checks.is("quotient of itself in it", desk, 0, "1");
        Checks.answered("ZERO divided", desk, desk.divided(7, 6, 0), 0);
        Checks.answered("ZERO divided", desk, desk.divided(7, 6, 3), 0);
        Checks.answered("divides ZERO", desk, desk.divides(1, 7), 1);
        Checks.answered("divides", desk, desk.divides(2, 1), 0);
    }

    private static void firstDivisorFirst() {
        TermDesk desk = Checks.told("ring prime 5 order deg x y z;poly x2 y2;poly x2 + 1;poly y2 + 1;poly x y + z");
        desk.quotient(0, 14, 1, 4);
        Checks.is("of the least number", desk, 4, "1 y2");
        desk.quotient(0, 12, 2, 4);
        Checks.is("of the next", desk, 4, "1 x2");
        desk.quotient(0, 12, 3, 4);
        Checks.is("of the last", desk, 4, "");
        Checks.answered("most terms of LEFT", desk, desk.divided(0, 14, 3), 1);
        desk.order(0, 2, 0);
        Checks.answered("by another order the last has z ahead", desk, desk.divided(0, 8, 1), 1);
        Checks.answered("LEFT grows", desk, desk.divided(3, 2, 3), 2);
    }

    private static void refusals() {
        TermDesk desk = Checks.told("ring prime 5 order lex x y z;poly x;poly y");
        for (int what : new int[] {-1, 4, Integer.MAX_VALUE}) {
            Checks.refused("divided what", desk, desk.divided(0, 0, what), 1);
        }
        Checks.refused("divided r", desk, desk.divided(8, 0, 0), 1);
        for (int set : new int[] {0, 256, -1, 257, Integer.MIN_VALUE}) {
            Checks.refused("divided set", desk, desk.divided(0, set, 0), 2);
            Checks.refused("rest set", desk, desk.rest(0, set, 0), 2);
            Checks.refused("quotient set", desk, desk.quotient(0, set, 0, 0), 2);
            Checks.refused("missing set", desk, desk.missing(set), 2);
            Checks.refused("complete set", desk, desk.complete(set), 2);
        }
        Checks.refused("divided by ZERO", desk, desk.divided(0, 5, 0), 5);
        Checks.refused("ZERO divided by ZERO", desk, desk.divided(7, 128, 0), 5);
        Checks.refused("divides: by ZERO", desk, desk.divides(2, 0), 5);
        Checks.refused("divides r", desk, desk.divides(8, 0), 1);
        Checks.refused("divides of", desk, desk.divides(0, -1), 1);
        Checks.refused("rest r", desk, desk.rest(-1, 0, 0), 1);
        Checks.refused("rest k", desk, desk.rest(0, 0, 8), 1);
        Checks.refused("rest by ZERO", desk, desk.rest(0, 255, 0), 5);
        Checks.refused("quotient r", desk, desk.quotient(8, 1, 0, 0), 1);
        Checks.refused("quotient d", desk, desk.quotient(0, 1, 8, 0), 1);
        Checks.refused("quotient d", desk, desk.quotient(0, 1, -1, 0), 1);
        Checks.refused("quotient k", desk, desk.quotient(0, 1, 0, 8), 1);
        Checks.refused("quotient d not in the set", desk, desk.quotient(0, 1, 1, 0), 2);
        Checks.refused("quotient d not in a set with ZERO", desk, desk.quotient(0, 4, 1, 0), 2);
        Checks.refused("quotient by ZERO", desk, desk.quotient(0, 4, 2, 0), 5);
        Checks.refused("missing with ZERO", desk, desk.missing(7), 5);
        Checks.refused("complete with ZERO", desk, desk.complete(7), 5);
        Checks.due("nothing was done", desk.size(1), 0);
        Checks.is("nothing was done", desk, 0, "1 x1");
    }

    private static void exponentsAboveFifteen() {
        TermDesk desk = Checks.told("ring prime 5 order lex x y z;poly x2;poly x - y8;poly x - y7");
        Checks.refused("y16", desk, desk.divided(0, 2, 0), 3);
        Checks.refused("y16", desk, desk.divides(1, 0), 3);
        Checks.refused("y16", desk, desk.rest(0, 2, 5), 3);
        Checks.refused("y16", desk, desk.quotient(0, 2, 1, 5), 3);
        Checks.answered("y14", desk, desk.rest(0, 4, 5), 1);
        Checks.is("y14", desk, 5, "1 y14");
        Checks.due("acts", desk.size(1), 1);
    }

    /** (1 + x + .. + x7)(1 + y + .. + y6) and the like, by few told terms. */
    private static void manyTerms() {
        TermDesk desk = Checks.told("ring prime 7 order lex x y z;poly x7+x6+x5+x4+x3+x2+x+1;poly y6+y5+y4+y3+y2+y+1;poly z");
        Checks.answered("56 terms", desk, desk.times(0, 1, 3), 56);
        desk.scale(2, 1, 0, 0, 0, 4);
        desk.add(3, 4, 4);
        Checks.answered("57 terms", desk, desk.terms(4), 57);
        Checks.answered("all go to the rest", desk, desk.divided(4, 4, 1), 56);
        Checks.answered("a quotient of 56 terms", desk, desk.divides(3, 3), 1);
        desk = Checks.told("ring prime 7 order lex z x y;poly x7+x6+x5+x4+x3+x2+x+1;poly y6+y5+y4+y3+y2+y+1;poly z;poly z2");
        desk.times(0, 1, 4);
        desk.less(2, 4, 5);
        Checks.answered("57 terms of z less many", desk, desk.terms(5), 57);
        Checks.refused("LEFT has more than 60 terms", desk, desk.divided(3, 32, 0), 3);
    }

    private static void manySteps() {
        TermDesk desk = Checks.told("ring prime 2 order lex x y z;poly x - y;poly x15;poly y - z");
        Checks.answered("steps", desk, desk.divided(1, 5, 0), 31);
        Checks.answered("rest", desk, desk.rest(1, 5, 4), 1);
        Checks.is("rest", desk, 4, "1 z15");
        desk = Checks.told("ring prime 3 order lex x y z;poly x - y;poly x15z3 + x15z2 + x15z + x15;poly x y14z4");
        int[] due = {64, 4, 60, 4};
        for (int what = 0; what < 4; what++) {
            Checks.answered("a quotient of 60 terms", desk, desk.divided(1, 1, what), due[what]);
        }
        desk.add(1, 2, 1);
        Checks.refused("a quotient of 61 terms", desk, desk.divided(1, 1, 0), 3);
        desk = Checks.told("ring prime 3 order lex y x z;poly x - z11-z10-z9-z8-z7-z6-z5-z4-z3-z2-z;"
            + "poly y4x + y3x + y2x + y x + x + y4 + y3 + y2 + y + 1;poly y15");
        int[] rest = {65, 60, 5, 20};
        for (int what = 0; what < 4; what++) {
            Checks.answered("a rest of 60 terms", desk, desk.divided(1, 1, what), rest[what]);
        }
        desk.add(1, 2, 1);
        Checks.refused("a rest of 61 terms", desk, desk.divided(1, 1, 0), 3);
    }

    private static void bases() {
        TermDesk desk = Checks.told("ring prime 7 order lex x y z;poly x y - 1;poly y2 - 1;poly x - y;poly z 3 + x");
        Checks.answered("one alone", desk, desk.missing(1), 0);
        Checks.answered("two", desk, desk.missing(3), 1);
        Checks.answered("three", desk, desk.missing(7), 0);
        Checks.answered("leads without an unknown in common", desk, desk.missing(6), 0);
        Checks.answered("complete of one alone", desk, desk.complete(2), -2);
        Checks.due("no act", desk.size(1), 0);
        desk = Checks.told("ring prime 7 order lex x y z;poly x - y8;poly x + y;poly x2z + z");
        Checks.refused("missing: no room in a pair's division", desk, desk.missing(5), 3);
        Checks.refused("complete: no room in a pair's division", desk, desk.complete(5), 3);
        desk = Checks.told("ring prime 7 order lex x y z;poly x15 z - y15;poly x y - z;poly x + 1");
        Checks.refused("pair: an exponent above 15", desk, desk.pair(0, 1, 7), 3);
        Checks.refused("missing: no room in a pair", desk, desk.missing(3), 3);
    }

    private static void completing() {
        TermDesk desk = Checks.told("ring prime 7 order lex x y z;poly x y - 1;poly 0;poly y2 - 1");
        Checks.answered("complete", desk, desk.complete(5), 1);
        Checks.is("laid in the first ZERO", desk, 1, "1 x1 + 6 y1");
        Checks.due("an act", desk.size(1), 1);
        Checks.answered("complete now", desk, desk.complete(7), -2);
        Checks.due("undo", desk.undo(), true);
        Checks.is("undone", desk, 1, "");
        desk = Checks.told("ring prime 7 order lex x y z;poly x2;poly x2 + x;poly x2 + y15;poly x2 y + y14 z");
        Checks.answered("the first pair alone", desk, desk.complete(7), 4);
        Checks.is("the first pair is 0 less 1", desk, 4, "6 x1");
    }

    private static void completingRefused() {
        TermDesk desk = Checks.told("ring prime 7 order lex x y z;poly x;poly y;poly z;poly x y;poly x z;poly y z");
        desk.add(0, 1, 6);
        Checks.answered("one is ZERO", desk, desk.complete(7), -2);
        desk.add(0, 2, 7);
        Checks.refused("none is ZERO", desk, desk.complete(7), 5);
        Checks.refused("none is ZERO", desk, desk.complete(255), 5);
        Checks.answered("missing of all", desk, desk.missing(255), 0);
        Checks.refused("2 ahead of 5", desk, desk.complete(0), 2);
    }
}
