/** Promises 37 to 39: constant, size, trouble. */
public final class ToldTest {
    public static void main(String[] args) {
        constants();
        sizes();
        troubles();
        Checks.end("ToldTest");
    }

    private static void constants() {
        TermDesk desk = new TermDesk();
        Checks.due("constant without desk", Checks.constantOrNone(desk, 0), -1);
        Checks.tell(desk, "ring prime 7 order lex x y z;poly x;poly 3;poly 7;poly x + 1;poly 8;poly z");
        Checks.due("constant 0", Checks.constantOrNone(desk, 0), 1);
        Checks.due("constant 1", Checks.constantOrNone(desk, 1), 4);
        Checks.due("constant 2", Checks.constantOrNone(desk, 2), -1);
        Checks.due("constant -1", Checks.constantOrNone(desk, -1), -1);
        Checks.due("constant of the least", Checks.constantOrNone(desk, Integer.MIN_VALUE), -1);
        desk.order(2, 2, 0);
        Checks.due("constant by another order", Checks.constantOrNone(desk, 1), 4);
        desk.put(0, 0, 2, 0);
        Checks.due("constant 0", Checks.constantOrNone(desk, 0), 0);
        desk.put(0, 0, 9, 0);
        Checks.due("trouble", desk.trouble(), 2);
        Checks.due("constant 9", Checks.constantOrNone(desk, 9), -1);
        Checks.due("constant tells no trouble", desk.trouble(), 2);
    }

    private static void sizes() {
        TermDesk desk = Checks.told("ring prime 7 order lex x y z;poly x;poly y + z");
        Checks.due("bytes", desk.size(0), 0);
        desk.feed(0, 0, 0, 0, 0);
        Checks.due("bytes", desk.size(0), 20);
        Checks.due("to undo", desk.size(1), 0);
        desk.add(0, 1, 7);
        Checks.due("to undo", desk.size(1), 1);
        Checks.due("terms", desk.size(2), 6);
        Checks.due("others", desk.size(3), -1);
        Checks.due("others", desk.size(-1), -1);
        Checks.due("size tells no trouble", desk.trouble(), 0);
    }

    private static void troubles() {
        TermDesk desk = Checks.told("ring prime 7 order lex x y z;poly x15;poly y");
        Checks.refused("1", desk, desk.terms(8), 1);
        Checks.due("trouble again", desk.trouble(), 1);
        Checks.answered("0", desk, desk.terms(0), 1);
        Checks.refused("2", desk, desk.coefficient(0, 16, 0, 0), 2);
        Checks.refused("3", desk, desk.times(0, 0, 0), 3);
        Checks.refused("5", desk, desk.divides(7, 0), 5);
        Checks.refused("4", desk, Checks.tell(desk, "?"), 4);
        Checks.due("behind feed", desk.feed(0, 0, 0, 0, 0), 20);
        Checks.due("behind feed", desk.trouble(), 4);
        Checks.due("undo", desk.undo(), false);
        Checks.due("undo is told", desk.trouble(), 1);
        Checks.answered("about", desk, desk.about(0), 7);
    }
}
