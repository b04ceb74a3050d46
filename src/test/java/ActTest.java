/** Promises 20 to 27, 30, 35, 36: the acts but for division and divisors in common. */
public final class ActTest {
    private static final String SIX = "ring prime 7 order lex x y z;poly x2 + 3 x y - 1;poly 6 x2 + y3;poly z15;poly 2;poly 5 z;poly x14";

    public static void main(String[] args) {
        sums();
        sixtyTerms();
        products();
        scales();
        monics();
        derivatives();
        puts();
        swaps();
        pairs();
        orders();
        undoing();
        undoingOrders();
        Checks.end("ActTest");
    }

    private static void sums() {
        TermDesk desk = Checks.told(SIX);
        Checks.answered("add", desk, desk.add(0, 1, 7), 3);
        Checks.is("add", desk, 7, "3 x1 y1 + 1 y3 + 6");
        Checks.answered("less", desk, desk.less(0, 1, 7), 4);
        Checks.is("less", desk, 7, "2 x2 + 3 x1 y1 + 6 y3 + 6");
        Checks.answered("less of itself, in itself", desk, desk.less(0, 0, 0), 0);
        Checks.is("less of itself, in itself", desk, 0, "");
        Checks.answered("ZERO less one", desk, desk.less(0, 1, 0), 2);
        Checks.is("ZERO less one", desk, 0, "1 x2 + 6 y3");
        Checks.answered("add to itself", desk, desk.add(0, 0, 0), 2);
        Checks.is("add to itself", desk, 0, "2 x2 + 5 y3");
        int acts = desk.size(1);
        for (int r : new int[] {-1, 8, Integer.MAX_VALUE, Integer.MIN_VALUE}) {
            Checks.refused("add r", desk, desk.add(r, 0, 0), 1);
            Checks.refused("add q", desk, desk.add(0, r, 0), 1);
            Checks.refused("add k", desk, desk.add(0, 0, r), 1);
            Checks.refused("less r", desk, desk.less(r, 0, 0), 1);
            Checks.refused("less q", desk, desk.less(0, r, 0), 1);
            Checks.refused("less k", desk, desk.less(0, 0, r), 1);
        }
        Checks.due("refused is no act", desk.size(1), acts);
    }

    private static void sixtyTerms() {
        TermDesk desk = Checks.told("ring prime 7 order rev x y z;poly x9+x8+x7+x6+x5+x4+x3+x2+x+1;poly y5+y4+y3+y2+y+1;poly z");
        Checks.answered("60 terms", desk, desk.times(0, 1, 3), 60);
        Checks.refused("61 terms", desk, desk.add(3, 2, 4), 3);
        Checks.refused("61 terms", desk, desk.less(2, 3, 4), 3);
        Checks.is("nothing laid", desk, 4, "");
        Checks.answered("60 terms again", desk, desk.add(3, 3, 3), 60);
        Checks.answered("60 terms derived", desk, desk.derive(3, 0, 5), 48);
        Checks.answered("60 terms less themselves", desk, desk.less(3, 3, 3), 0);
        desk.add(1, 2, 1);
        Checks.refused("70 terms", desk, desk.times(0, 1, 3), 3);
        desk = Checks.told("ring prime 2 order rev x y z;poly x7+x6+x5+x4+x3+x2+x+1;poly y7+y6+y5+y4+y3+y2+y+1;poly x + 1;poly y + 1");
        desk.times(0, 3, 4);
        desk.times(1, 2, 5);
        Checks.answered("more than 60 on the way", desk, desk.times(4, 5, 6), 4);
        Checks.is("more than 60 on the way", desk, 6, "1 x8 y8 + 1 x8 + 1 y8 + 1");
    }

    private static void products() {
        TermDesk desk = Checks.told(SIX);
        Checks.answered("times", desk, desk.times(0, 1, 7), 6);
        Checks.is("times", desk, 7, "6 x4 + 4 x3 y1 + 1 x2 y3 + 1 x2 + 3 x1 y4 + 6 y3");
        Checks.answered("times ZERO", desk, desk.times(2, 6, 7), 0);
        Checks.answered("times a number", desk, desk.times(3, 3, 3), 1);
        Checks.is("times a number", desk, 3, "4");
        Checks.refused("z16", desk, desk.times(2, 4, 7), 3);
        Checks.refused("x16", desk, desk.times(0, 5, 7), 3);
        desk = Checks.told("ring prime 2 order lex x y z;poly x8 + y;poly x8 - y;poly x7 + y;poly x7 - y");
        Checks.refused("x16 alone", desk, desk.times(0, 1, 7), 3);
        Checks.answered("x14", desk, desk.times(2, 3, 7), 2);
        desk = Checks.told("ring prime 2 order lex x y z;poly x15 + x14;poly x + x y;poly x2 + x");
        Checks.refused("x16 that cancels", desk, desk.times(0, 2, 7), 3);
        Checks.refused("times r", desk, desk.times(8, 2, 7), 1);
        Checks.refused("times q", desk, desk.times(2, -1, 7), 1);
        Checks.refused("times k", desk, desk.times(2, 2, 8), 1);
    }

    private static void scales() {
        TermDesk desk = Checks.told(SIX);
        Checks.answered("scale", desk, desk.scale(0, 3, 1, 2, 15, 7), 3);
        Checks.is("scale", desk, 7, "3 x3 y2 z15 + 2 x2 y3 z15 + 4 x1 y2 z15");
        Checks.answered("scale by 0", desk, desk.scale(0, 0, 1, 2, 3, 7), 0);
        Checks.answered("scale by 0 and exponents without room", desk, desk.scale(0, 0, 15, 0, 0, 7), 0);
        Checks.answered("scale ZERO", desk, desk.scale(6, 6, 15, 15, 15, 7), 0);
        Checks.refused("x16", desk, desk.scale(0, 1, 14, 0, 0, 7), 3);
        Checks.refused("x17", desk, desk.scale(0, 1, 15, 0, 0, 7), 3);
        Checks.refused("c", desk, desk.scale(0, 7, 0, 0, 0, 7), 2);
        Checks.refused("c", desk, desk.scale(0, -1, 0, 0, 0, 7), 2);
        Checks.refused("exponent of x", desk, desk.scale(0, 1, 16, 0, 0, 7), 2);
        Checks.refused("exponent of y", desk, desk.scale(0, 1, 0, -1, 0, 7), 2);
        Checks.refused("exponent of z", desk, desk.scale(0, 0, 0, 0, 16, 7), 2);
        Checks.refused("r: 1 ahead of 2", desk, desk.scale(8, 7, 0, 0, 0, 7), 1);
        Checks.refused("k: 1 ahead of 2", desk, desk.scale(0, 7, 0, 0, 0, 8), 1);
    }

    private static void monics() {
        TermDesk desk = Checks.told(SIX);
        Checks.answered("monic", desk, desk.monic(1, 7), 2);
        Checks.is("monic", desk, 7, "1 x2 + 6 y3");
        desk.order(0, 1, 0);
        Checks.answered("monic by another order", desk, desk.monic(1, 7), 2);
        Checks.is("monic by another order", desk, 7, "1 y3 + 6 x2");
        Checks.answered("monic of a number", desk, desk.monic(3, 3), 1);
        Checks.is("monic of a number", desk, 3, "1");
        Checks.answered("monic of ZERO", desk, desk.monic(6, 7), 0);
        Checks.refused("monic r", desk, desk.monic(8, 0), 1);
        Checks.refused("monic k", desk, desk.monic(0, -1), 1);
    }

    private static void derivatives() {
        TermDesk desk = Checks.told("ring prime 3 order deg x y z;poly x4y + 2x3 + x2 + y z2 + 1");
        Checks.answered("by x", desk, desk.derive(0, 0, 1), 2);
        Checks.is("by x", desk, 1, "1 x3 y1 + 2 x1");
        Checks.answered("by y", desk, desk.derive(0, 1, 1), 2);
        Checks.is("by y", desk, 1, "1 x4 + 1 z2");
        Checks.answered("by z, in itself", desk, desk.derive(0, 2, 0), 1);
        Checks.is("by z, in itself", desk, 0, "2 y1 z1");
        Checks.answered("of ZERO", desk, desk.derive(7, 0, 6), 0);
        Checks.refused("derive r", desk, desk.derive(-1, 0, 0), 1);
        Checks.refused("derive unknown", desk, desk.derive(0, 3, 0), 1);
        Checks.refused("derive unknown", desk, desk.derive(0, -1, 0), 1);
        Checks.refused("derive k", desk, desk.derive(0, 0, 8), 1);
    }

    private static void puts() {
        TermDesk desk = Checks.told("ring prime 5 order lex x y z;poly x15 + 3 x y - 2 y + 4;poly x - 1");
        Checks.answered("2 for x", desk, desk.put(0, 0, 2, 2), 2);
        Checks.is("2 for x", desk, 2, "4 y1 + 2");
        Checks.answered("0 for x", desk, desk.put(0, 0, 0, 2), 2);
        Checks.is("0 for x", desk, 2, "3 y1 + 4");
        Checks.answered("1 for x: all go", desk, desk.put(1, 0, 1, 1), 0);
        Checks.answered("4 for z: none occurs", desk, desk.put(0, 2, 4, 2), 4);
        Checks.due("4 for z: none occurs", desk.same(0, 2), 1);
        Checks.refused("put c", desk, desk.put(0, 0, 5, 2), 2);
        Checks.refused("put c", desk, desk.put(0, 0, -1, 2), 2);
        Checks.refused("put r", desk, desk.put(8, 0, 5, 2), 1);
        Checks.refused("put unknown", desk, desk.put(0, 3, 5, 2), 1);
        Checks.refused("put k", desk, desk.put(0, 0, 5, -1), 1);
    }

    private static void swaps() {
        TermDesk desk = Checks.told("ring prime 5 order lex x y z;poly x3 + 2 x y2 + 3 z4");
        Checks.answered("x and y", desk, desk.swap(0, 0, 1, 1), 3);
        Checks.is("x and y", desk, 1, "2 x2 y1 + 1 y3 + 3 z4");
        Checks.answered("z and x", desk, desk.swap(0, 2, 0, 1), 3);
        Checks.is("z and x", desk, 1, "3 x4 + 2 y2 z1 + 1 z3");
        Checks.answered("y and y", desk, desk.swap(0, 1, 1, 1), 3);
        Checks.due("y and y", desk.same(0, 1), 1);
        Checks.due("also if it was so, an act", desk.size(1), 3);
        Checks.refused("swap r", desk, desk.swap(8, 0, 1, 1), 1);
        Checks.refused("swap unknown", desk, desk.swap(0, 3, 1, 1), 1);
        Checks.refused("swap other", desk, desk.swap(0, 0, -1, 1), 1);
        Checks.refused("swap k", desk, desk.swap(0, 0, 1, 8), 1);
    }

    private static void pairs() {
        TermDesk desk = Checks.told("ring prime 7 order deg x y z;poly 2 x3y + 4 z;poly 3 x y2 + x + 1;poly x3y + 2 z;poly x y15 + z;poly x15 + y");
        Checks.answered("pair", desk, desk.pair(0, 1, 7), 3);
        Checks.is("pair", desk, 7, "2 x3 + 2 x2 + 2 y1 z1");
        Checks.answered("pair the other way", desk, desk.pair(1, 0, 7), 3);
        Checks.is("pair the other way", desk, 7, "5 x3 + 5 x2 + 5 y1 z1");
        Checks.answered("pair of like ones in two registers", desk, desk.pair(0, 2, 7), 0);
        Checks.refused("pair: y16", desk, desk.pair(3, 4, 7), 3);
        Checks.refused("pair with ZERO", desk, desk.pair(0, 6, 7), 5);
        Checks.refused("pair with ZERO", desk, desk.pair(6, 0, 7), 5);
        Checks.refused("pair of one", desk, desk.pair(0, 0, 7), 1);
        Checks.refused("pair of one ZERO", desk, desk.pair(6, 6, 7), 1);
        Checks.refused("pair r", desk, desk.pair(8, 0, 7), 1);
        Checks.refused("pair q", desk, desk.pair(0, -1, 7), 1);
        Checks.refused("pair k", desk, desk.pair(0, 6, 8), 1);
    }

    private static void orders() {
        TermDesk desk = Checks.told("ring prime 7 order lex x y z;poly x2 + x y z + y4 + z3");
        Checks.answered("it is that", desk, desk.order(0, 0, 1), 0);
        Checks.due("an act, too", desk.size(1), 1);
        Checks.answered("deg", desk, desk.order(1, 0, 1), 1);
        Checks.is("deg", desk, 0, "1 y4 + 1 x1 y1 z1 + 1 z3 + 1 x2");
        Checks.answered("rev", desk, desk.order(2, 1, 0), 1);
        Checks.is("rev", desk, 0, "1 y4 + 1 x1 y1 z1 + 1 z3 + 1 x2");
        Checks.answered("rev", desk, desk.order(2, 1, 2), 1);
        Checks.is("rev", desk, 0, "1 y4 + 1 z3 + 1 x1 y1 z1 + 1 x2");
        Checks.answered("lex", desk, desk.order(0, 2, 0), 1);
        Checks.is("lex", desk, 0, "1 z3 + 1 x1 y1 z1 + 1 x2 + 1 y4");
        Checks.due("first", desk.about(2), 2);
        Checks.due("third", desk.about(4), 1);
        int[][] wrong = {{3, 0, 1}, {-1, 0, 1}, {0, 3, 1}, {0, -1, 1}, {0, 0, 3}, {0, 0, -1}, {0, 2, 2}};
        for (int[] w : wrong) {
            Checks.refused("order: wrong", desk, desk.order(w[0], w[1], w[2]), 2);
        }
        Checks.due("acts", desk.size(1), 5);
    }

    private static void undoing() {
        TermDesk desk = Checks.told("ring prime 97 order lex x y z;poly 1;poly x");
        Checks.due("nothing", desk.undo(), false);
        Checks.due("nothing: trouble", desk.trouble(), 1);
        for (int n = 1; n <= 10; n++) {
            Checks.answered("add", desk, desk.add(0, 1 + (n == 1 ? 1 : 0) * 6, 0), n == 1 ? 1 : 2);
            Checks.due("can be undone", desk.size(1), Math.min(n, 8));
        }
        Checks.is("9 x", desk, 0, "9 x1 + 1");
        for (int n = 8; n >= 1; n--) {
            Checks.due("undo", desk.undo(), true);
            Checks.due("undo: trouble", desk.trouble(), 0);
            Checks.is("undo", desk, 0, n + " x1 + 1");
            Checks.due("can be undone", desk.size(1), n - 1);
        }
        Checks.due("8 are kept", desk.undo(), false);
        Checks.is("8 are kept", desk, 0, "1 x1 + 1");
        desk.add(0, 0, 5);
        desk.undo();
        desk.times(1, 1, 1);
        Checks.due("undo", desk.undo(), true);
        Checks.is("undo", desk, 1, "1 x1");
        Checks.due("undone is undone", desk.undo(), false);
    }

    private static void undoingOrders() {
        TermDesk desk = Checks.told("ring prime 7 order lex x y z;poly x + y2 + z3");
        desk.order(1, 2, 1);
        desk.add(0, 0, 1);
        desk.order(2, 0, 1);
        desk.order(2, 0, 1);
        desk.less(0, 0, 0);
        Checks.due("undo", desk.undo(), true);
        Checks.is("undo", desk, 0, "1 z3 + 1 y2 + 1 x1");
        Checks.due("undo of no exchange", desk.undo(), true);
        Checks.due("rev", desk.about(1), 2);
        Checks.due("undo of an exchange", desk.undo(), true);
        Checks.due("deg", desk.about(1), 1);
        Checks.due("z", desk.about(2), 2);
        Checks.is("doubled", desk, 1, "2 z3 + 2 y2 + 2 x1");
        Checks.due("undo", desk.undo(), true);
        Checks.due("undo", desk.undo(), true);
        Checks.is("lex", desk, 0, "1 x1 + 1 y2 + 1 z3");
        Checks.is("not told", desk, 1, "");
        Checks.due("lex", desk.about(1), 0);
        Checks.due("nothing", desk.undo(), false);
    }
}
