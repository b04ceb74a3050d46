/** Promises 1 to 6: a new object, feed, desk, fault, where, about. */
public final class DeskTest {
    private static final String RING = "ring prime 7 order lex x y z";

    public static void main(String[] args) {
        aNewObject();
        feeding();
        desks();
        orders();
        formFaults();
        tokenFaults();
        otherFaults();
        manyFaults();
        whichStays();
        abouts();
        Checks.end("DeskTest");
    }

    private static void aNewObject() {
        TermDesk desk = new TermDesk();
        Checks.due("new: trouble", desk.trouble(), 0);
        Checks.due("new: fault", desk.fault(), 0);
        Checks.due("new: where", desk.where(), -1);
        Checks.refused("new: about", desk, desk.about(0), 1);
        Checks.refused("new: terms", desk, desk.terms(0), 1);
        Checks.refused("new: order", desk, desk.order(0, 0, 1), 1);
        Checks.refused("new: order, its numbers wrong", desk, desk.order(9, 0, 1), 1);
        Checks.refused("new: missing, its set wrong", desk, desk.missing(0), 1);
        Checks.refused("new: complete, its set wrong", desk, desk.complete(0), 1);
        Checks.due("new: ahead", desk.ahead(0, 0, 99, 0, 0, 0), -2);
        Checks.due("new: ahead, trouble", desk.trouble(), 1);
        Checks.due("new: undo", desk.undo(), false);
        for (int what = 0; what < 3; what++) {
            Checks.due("new: size", desk.size(what), 0);
        }
    }

    private static void feeding() {
        TermDesk desk = new TermDesk();
        for (int times = 1; times <= 35; times++) {
            Checks.due("feed", desk.feed(0x20202020, 0x20202020, 0x20202020, 0x20202020, 0x20202020), 20 * times);
        }
        Checks.due("feed more than 700", desk.feed(0, 0, 0, 0, 0), -1);
        Checks.due("feed more than 700: trouble is not told of it", desk.trouble(), 0);
        Checks.due("feed more than 700: none came", desk.size(0), 700);
        Checks.refused("desk of more than there are", desk, desk.desk(701), 2);
        Checks.refused("desk of less than none", desk, desk.desk(-1), 2);
        Checks.due("the tape stays", desk.size(0), 700);
        Checks.refused("desk of blanks", desk, desk.desk(700), 4);
        Checks.due("desk of blanks: fault", desk.fault(), 1);
        Checks.due("desk of blanks: at the end", desk.where(), 700);
        Checks.due("the tape is empty", desk.size(0), 0);
        Checks.due("the highest byte first", desk.feed('r' << 24 | 'i' << 16 | 'n' << 8 | 'g', 0x20707269, 0x6d652032,
            0x206f7264, 0x6572206c), 20);
        Checks.due("the highest byte first", desk.feed(0x65782078, 0x2079207a, 0, -1, 0), 40);
        Checks.answered("the first bytes alone", desk, desk.desk(28), 0);
        Checks.due("prime", desk.about(0), 2);
        Checks.due("what was behind them is gone", desk.size(0), 0);
    }

    private static void desks() {
        TermDesk desk = Checks.told("  ring prime 0011 order rev z x y ;poly - 3x2y + 20 - x 1 y0015z;poly 0;poly 4 x - 15x");
        Checks.due("prime", desk.about(0), 11);
        Checks.is("signs and wholes modulo 11", desk, 0, "10 x1 y15 z1 + 8 x2 y1 + 9");
        Checks.is("0", desk, 1, "");
        Checks.is("like terms", desk, 2, "");
        Checks.due("registers that aren't ZERO", desk.about(5), 1);
        Checks.due("6 polys", Checks.tell(desk, RING + ";poly x;poly y;poly z;poly 1;poly x y;poly x 15 y 15 z 15"), 6);
        Checks.is("the old ones are gone", desk, 2, "1 z1");
        Checks.is("those not told are ZERO", desk, 6, "");
        Checks.is("the greatest exponents", desk, 5, "1 x15 y15 z15");
        Checks.due("12 terms", Checks.tell(desk, RING + ";poly 1+x+y+z-x2-y2-z2+x3+y3+z3+x4+y4"), 1);
        Checks.due("12 terms", desk.terms(0), 12);
        Checks.answered("a ring alone", desk, Checks.tell(desk, RING), 0);
        for (int p = 0; p <= 101; p++) {
            boolean prime = p <= 97 && java.math.BigInteger.valueOf(p).isProbablePrime(30);
            Checks.due("prime " + p, Checks.tell(desk, "ring prime " + p + " order lex x y z"), prime ? 0 : -1);
            Checks.due("prime " + p, desk.fault(), prime ? 0 : 2);
            Checks.due("prime " + p, desk.where(), prime ? -1 : 11);
        }
    }

    private static void orders() {
        String[] hows = {"lex", "deg", "rev"};
        String[] unknowns = {"x y z", "x z y", "y x z", "y z x", "z x y", "z y x"};
        for (int how = 0; how < 3; how++) {
            for (String all : unknowns) {
                TermDesk desk = Checks.told("ring prime 3 order " + hows[how] + " " + all);
                Checks.due("how", desk.about(1), how);
                for (int i = 0; i < 3; i++) {
                    Checks.due("unknown " + i, desk.about(2 + i), all.charAt(2 * i) - 'x');
                }
            }
        }
    }

    private static void faulty(String text, int fault, int where) {
        TermDesk desk = new TermDesk();
        Checks.refused("faulty " + text, desk, Checks.tell(desk, text), 4);
        Checks.due("fault of " + text, desk.fault(), fault);
        Checks.due("where of " + text, desk.where(), where);
    }

    private static void formFaults() {
        faulty("", 1, 0);
        faulty("   ", 1, 3);
        faulty(";", 1, 0);
        faulty(RING + ";", 1, 29);
        faulty(RING + ";  ", 1, 31);
        faulty(RING + ";;poly x", 1, 29);
        faulty(RING + " poly x", 1, 29);
        faulty("rings", 1, 0);
        faulty("ring 7", 1, 5);
        faulty("ring prime", 1, 10);
        faulty("ring prime x", 1, 11);
        faulty("ring prime 7", 1, 12);
        faulty("ring prime 7 lex x y z", 1, 13);
        faulty("ring prime 7 order x y z", 1, 19);
        faulty("ring prime 7 order lex x y;poly x", 1, 26);
        faulty("ring prime 7 order lex x y w", 1, 27);
        faulty("ring prime 7 order lex xyz", 1, 23);
        faulty("ring prime 7 order lex x y z z", 1, 29);
        faulty(RING + ";poly", 1, 33);
        faulty(RING + ";poly  ", 1, 35);
        faulty(RING + ";poly;", 1, 33);
        faulty(RING + ";poly + x", 1, 34);
        faulty(RING + ";poly - - x", 1, 36);
        faulty(RING + ";poly x +", 1, 37);
        faulty(RING + ";poly x + ;poly y", 1, 38);
        faulty(RING + ";poly x 2 3", 1, 38);
        faulty(RING + ";poly 2 3", 1, 36);
        faulty(RING + ";poly xy", 1, 34);
        faulty(RING + ";poly x ring", 1, 36);
    }

    private static void tokenFaults() {
        faulty(RING + ";poly X", 1, 34);
        faulty(RING + ";poly x\u00ff", 1, 35);
        faulty(RING + ";poly x\n", 1, 35);
        faulty(RING + ";poly x^2", 1, 35);
        faulty(RING + ";poly 12345", 1, 34);
        faulty(RING + ";poly x 00001", 1, 36);
        faulty("ring prime 00007 order lex x y z", 1, 11);
        faulty("ring prime 7 orderlex x y z", 1, 13);
        faulty("ring primes 7 order lex x y z", 1, 5);
    }

    private static void otherFaults() {
        faulty("ring prime 4 order", 2, 11);
        faulty("ring prime 9999 ?", 2, 11);
        faulty("ring prime 0000", 2, 11);
        faulty("ring prime 1", 2, 11);
        faulty("ring prime 7 order lex x x z", 3, 25);
        faulty("ring prime 7 order lex x y x", 3, 27);
        faulty(RING + ";ring", 3, 29);
        faulty(RING + ";poly x;ring prime 4", 3, 36);
        faulty(RING + ";poly x x", 3, 36);
        faulty(RING + ";poly 3 x 2 y x 99", 3, 42);
        faulty(RING + ";poly x y z z", 3, 40);
        faulty(RING + ";poly x 0", 4, 36);
        faulty(RING + ";poly x 16", 4, 36);
        faulty(RING + ";poly x15y016", 4, 38);
        faulty(RING + ";poly x 9999 ?", 4, 36);
        faulty("poly x", 6, 0);
        faulty("  poly", 6, 2);
        faulty("poly x;" + RING, 6, 0);
    }

    private static void manyFaults() {
        String six = RING + ";poly x;poly x;poly x;poly x;poly x;poly x";
        faulty(six + ";poly x", 5, six.length() + 1);
        faulty(six + ";poly", 5, six.length() + 1);
        String twelve = RING + ";poly x+x+x+x+x+x+x+x+x+x+x+x";
        faulty(twelve + "+x", 5, twelve.length());
        faulty(twelve + " - ?", 5, twelve.length() + 1);
        faulty(twelve + " ?", 1, twelve.length() + 1);
        TermDesk desk = Checks.told(twelve + ";poly - x-x-x-x-x-x-x-x-x-x-x-x");
        Checks.is("12 x", desk, 0, "5 x1");
        Checks.is("12 -x", desk, 1, "2 x1");
    }

    private static void whichStays() {
        TermDesk desk = Checks.told(RING + ";poly x + 1");
        Checks.due("add", desk.add(0, 0, 1), 2);
        Checks.refused("a fault", desk, Checks.tell(desk, "ring prime 5 order deg z y x;poly y;poly ?"), 4);
        Checks.due("where", desk.where(), 41);
        Checks.due("where again", desk.where(), 41);
        Checks.due("where behind calls that tell no trouble", desk.size(0) + desk.fault() + desk.feed(0, 0, 0, 0, 0), 21);
        Checks.due("where behind calls that tell no trouble", desk.where(), 41);
        Checks.due("the desk stays", desk.about(0), 7);
        Checks.due("where behind a call", desk.where(), -1);
        Checks.is("the desk stays", desk, 0, "1 x1 + 1");
        Checks.due("what can be undone stays", desk.size(1), 1);
        Checks.refused("desk 21", desk, desk.desk(21), 2);
        Checks.due("fault is that of the desk before", desk.fault(), 1);
        Checks.due("where", desk.where(), -1);
        Checks.refused("desk 20", desk, desk.desk(20), 4);
        Checks.due("where", desk.where(), 0);
        Checks.answered("a new desk", desk, Checks.tell(desk, RING + ";poly y"), 1);
        Checks.due("fault", desk.fault(), 0);
        Checks.due("where", desk.where(), -1);
        Checks.due("nothing to undo", desk.undo(), false);
        Checks.due("nothing to undo", desk.size(1), 0);
    }

    private static void abouts() {
        TermDesk desk = Checks.told("ring prime 97 order deg y z x;poly x;poly 97;poly z");
        int[] due = {97, 1, 1, 2, 0, 2};
        for (int what = 0; what < 6; what++) {
            Checks.answered("about " + what, desk, desk.about(what), due[what]);
        }
        Checks.refused("about 6", desk, desk.about(6), 1);
        Checks.refused("about -1", desk, desk.about(-1), 1);
    }
}
