/** Promises 1 to 6: a new object, feed, desk with the text and its faults, fault, where, about. */
public final class Promises01To06Test {
    private static final int MIN = Integer.MIN_VALUE;
    private static final int MAX = Integer.MAX_VALUE;
    private static final int BLANKS = 0x20202020;
    private static final String RING = "ring prime 7 order lex x y z";
    private static final String SIX = RING + ";poly x;poly x;poly x;poly x;poly x;poly x";
    private static final String TWELVE = RING + ";poly x+x+x+x+x+x+x+x+x+x+x+x";

    public static void main(String[] args) {
        Checks.promises(Promises01To06Test.class, 1, 6);
    }

    private static int feedBlanks(TermDesk desk) {
        return desk.feed(BLANKS, BLANKS, BLANKS, BLANKS, BLANKS);
    }

    private static TermDesk full() {
        TermDesk desk = new TermDesk();
        for (int i = 0; i < 35; i++) {
            feedBlanks(desk);
        }
        return desk;
    }

    private static void faulty(String text, int fault, int where) {
        TermDesk desk = new TermDesk();
        Checks.refused("faulty " + text, desk, Checks.tell(desk, text), 4);
        Checks.due("fault of " + text, desk.fault(), fault);
        Checks.due("where of " + text, desk.where(), where);
    }

    private static void fine(String text, int polys) {
        TermDesk desk = new TermDesk();
        Checks.answered(text, desk, Checks.tell(desk, text), polys);
        Checks.due("fault of " + text, desk.fault(), 0);
        Checks.due("where of " + text, desk.where(), -1);
    }

    // ---- 1: a new object

    private static void promise01NoDeskRefusesWhatAsks() {
        TermDesk desk = new TermDesk();
        Checks.refused("about", desk, desk.about(0), 1);
        Checks.refused("terms", desk, desk.terms(0), 1);
        Checks.refused("term", desk, desk.term(0, 0, 0), 1);
        Checks.refused("degree", desk, desk.degree(0), 1);
        Checks.refused("degreeIn", desk, desk.degreeIn(0, 0), 1);
        Checks.refused("coefficient", desk, desk.coefficient(0, 0, 0, 0), 1);
        Checks.refused("value", desk, desk.value(0, 0, 0, 0), 1);
        Checks.refused("roots", desk, desk.roots(0), 1);
        Checks.refused("same", desk, desk.same(0, 0), 1);
        Checks.due("ahead", desk.ahead(0, 0, 0, 0, 0, 0), -2);
        Checks.trouble("ahead", desk, 1);
        Checks.refused("leadBy", desk, desk.leadBy(0, 0, 0, 1), 1);
        Checks.refused("divided", desk, desk.divided(0, 1, 0), 1);
        Checks.refused("divides", desk, desk.divides(0, 1), 1);
        Checks.refused("missing", desk, desk.missing(1), 1);
    }

    private static void promise01NoDeskRefusesActs() {
        TermDesk desk = new TermDesk();
        Checks.refused("add", desk, desk.add(0, 1, 2), 1);
        Checks.refused("less", desk, desk.less(0, 1, 2), 1);
        Checks.refused("times", desk, desk.times(0, 1, 2), 1);
        Checks.refused("scale", desk, desk.scale(0, 0, 0, 0, 0, 1), 1);
        Checks.refused("monic", desk, desk.monic(0, 1), 1);
        Checks.refused("derive", desk, desk.derive(0, 0, 1), 1);
        Checks.refused("put", desk, desk.put(0, 0, 0, 1), 1);
        Checks.refused("swap", desk, desk.swap(0, 0, 1, 1), 1);
        Checks.refused("rest", desk, desk.rest(0, 1, 2), 1);
        Checks.refused("quotient", desk, desk.quotient(0, 1, 0, 2), 1);
        Checks.refused("pair", desk, desk.pair(0, 1, 2), 1);
        Checks.refused("common", desk, desk.common(0, 1, 2), 1);
        Checks.refused("content", desk, desk.content(0, 1), 1);
        Checks.refused("primitive", desk, desk.primitive(0, 1), 1);
        Checks.refused("complete", desk, desk.complete(1), 1);
        Checks.refused("order", desk, desk.order(0, 0, 1), 1);
        Checks.due("undo", desk.undo(), false);
        Checks.trouble("undo", desk, 1);
        Checks.due("nothing was done", desk.size(1), 0);
    }

    private static void promise01NoDeskIsMetAheadOfNumbers() {
        TermDesk desk = new TermDesk();
        Checks.refused("about", desk, desk.about(99), 1);
        Checks.refused("coefficient", desk, desk.coefficient(0, 16, 0, 0), 1);
        Checks.refused("value", desk, desk.value(0, -1, 0, 0), 1);
        Checks.due("ahead", desk.ahead(16, 0, 0, 0, 0, 0), -2);
        Checks.trouble("ahead", desk, 1);
        Checks.refused("leadBy", desk, desk.leadBy(0, 3, 0, 0), 1);
        Checks.refused("divided", desk, desk.divided(0, 0, 0), 1);
        Checks.refused("missing", desk, desk.missing(0), 1);
        Checks.refused("scale", desk, desk.scale(0, 1, 16, 0, 0, 0), 1);
        Checks.refused("put", desk, desk.put(0, 0, -1, 0), 1);
        Checks.refused("rest", desk, desk.rest(0, 256, 0), 1);
        Checks.refused("quotient", desk, desk.quotient(0, 0, 0, 0), 1);
        Checks.refused("complete", desk, desk.complete(0), 1);
        Checks.refused("order", desk, desk.order(3, 0, 0), 1);
    }

    private static void promise01NothingIsTold() {
        TermDesk desk = new TermDesk();
        Checks.due("trouble", desk.trouble(), 0);
        Checks.due("fault", desk.fault(), 0);
        Checks.due("where", desk.where(), -1);
        for (int what = 0; what < 3; what++) {
            Checks.due("size " + what, desk.size(what), 0);
        }
        Checks.due("constant", Checks.constantOrNone(desk, 0), -1);
    }

    private static void promise01OneObjectIsNothingToAnother() {
        TermDesk told = Checks.told(RING + ";poly x");
        told.add(0, 0, 1);
        TermDesk other = new TermDesk();
        Checks.refused("about", other, other.about(0), 1);
        Checks.due("trouble of the first", told.trouble(), 0);
        Checks.tell(other, "ring prime 5 order deg z y x;poly y");
        Checks.due("prime of the first", told.about(0), 7);
        Checks.is("the first", told, 1, "2 x1");
    }

    // ---- 2: feed

    private static void promise02TellsHowManyTheTapeHas() {
        TermDesk desk = new TermDesk();
        for (int times = 1; times <= 35; times++) {
            Checks.due("feed " + times, feedBlanks(desk), 20 * times);
        }
        Checks.due("bytes", desk.size(0), 700);
    }

    private static void promise02MoreThan700IsRefused() {
        TermDesk desk = full();
        Checks.due("the 36th", desk.feed(0x3f3f3f3f, 0, 0, 0, -1), -1);
        Checks.due("none came", desk.size(0), 700);
        Checks.due("again", desk.feed(0, 0, 0, 0, 0), -1);
        Checks.refused("all are blanks still", desk, desk.desk(700), 4);
        Checks.due("so the fault is at the end", desk.where(), 700);
    }

    private static void promise02RefusedIsNoTrouble() {
        TermDesk desk = full();
        Checks.due("feed", feedBlanks(desk), -1);
        Checks.trouble("feed", desk, 0);
        desk.terms(0);
        Checks.due("feed", feedBlanks(desk), -1);
        Checks.trouble("behind a refused call", desk, 1);
    }

    private static void promise02TheHighestByteComesFirst() {
        TermDesk desk = new TermDesk();
        desk.feed('r' << 24 | 'i' << 16 | 'n' << 8 | 'g', 0x20707269, 0x6d652035, 0x206f7264, 0x65722072);
        desk.feed(0x6576207a, 0x2078207a - 1, BLANKS, BLANKS, BLANKS);
        Checks.answered("ring prime 5 order rev z x y", desk, desk.desk(28), 0);
        int[] due = {5, 2, 2, 0, 1};
        for (int what = 0; what < 5; what++) {
            Checks.due("about " + what, desk.about(what), due[what]);
        }
    }

    /** A byte of 128 and more is no letter, whatever the sign of the number that holds it. */
    private static void promise02BytesAreWithoutSign() {
        for (int place = 0; place < 20; place++) {
            TermDesk desk = new TermDesk();
            int[] five = {BLANKS, BLANKS, BLANKS, BLANKS, BLANKS};
            five[place / 4] = BLANKS & ~(255 << 24 - place % 4 * 8) | 0xf2 << 24 - place % 4 * 8;
            desk.feed(five[0], five[1], five[2], five[3], five[4]);
            Checks.refused("byte 242 at " + place, desk, desk.desk(20), 4);
            Checks.due("fault", desk.fault(), 1);
            Checks.due("where", desk.where(), place);
        }
    }

    private static void promise02GoesOnBehindARefusedDesk() {
        TermDesk desk = new TermDesk();
        feedBlanks(desk);
        desk.desk(21);
        Checks.due("the tape stayed", feedBlanks(desk), 40);
        desk.desk(40);
        Checks.due("the tape was empty", feedBlanks(desk), 20);
    }

    // ---- 3: desk, its number

    private static void promise03RefusesNumbersBeyondTheTape() {
        for (int n : new int[] {-1, 41, 700, 701, MIN, MAX}) {
            TermDesk desk = new TermDesk();
            feedBlanks(desk);
            feedBlanks(desk);
            Checks.refused("desk " + n, desk, desk.desk(n), 2);
            Checks.due("the tape stays", desk.size(0), 40);
        }
        TermDesk empty = new TermDesk();
        Checks.refused("desk 1 of an empty tape", empty, empty.desk(1), 2);
        TermDesk full = full();
        Checks.refused("desk 701 of a full tape", full, full.desk(701), 2);
        Checks.due("the tape stays", full.size(0), 700);
    }

    private static void promise03NoBytesAreADeskWithAFault() {
        TermDesk desk = new TermDesk();
        Checks.refused("of an empty tape", desk, desk.desk(0), 4);
        Checks.due("fault: the least number of one place", desk.fault(), 1);
        Checks.due("where", desk.where(), 0);
        feedBlanks(desk);
        Checks.refused("of a tape with bytes", desk, desk.desk(0), 4);
        Checks.due("where", desk.where(), 0);
        Checks.due("the tape is empty", desk.size(0), 0);
    }

    private static void promise03TheFirstBytesAlone() {
        TermDesk desk = new TermDesk();
        Checks.feed(desk, (RING + ";poly x;poly y;poly ?").getBytes());
        Checks.answered("desk 42", desk, desk.desk(42), 2);
        Checks.due("the others are gone", desk.size(0), 0);
        Checks.refused("the others are gone", desk, desk.desk(1), 2);
        Checks.feed(desk, (RING + " ; poly 15").getBytes());
        desk.desk(37);
        Checks.is("a WHOLE ends where the text does", desk, 0, "1");
    }

    private static void promise03AllOf700Bytes() {
        String text = RING + " ".repeat(700 - RING.length() - 9) + ";poly x15";
        TermDesk desk = new TermDesk();
        Checks.answered("700 bytes", desk, Checks.tell(desk, text), 1);
        Checks.is("the last byte is read", desk, 0, "1 x15");
        faulty(RING + " ".repeat(671) + "?", 1, 699);
        faulty(RING + " ".repeat(671) + ";", 1, 700);
    }

    private static void promise03TellsHowManyPolyLines() {
        StringBuilder text = new StringBuilder(RING);
        for (int polys = 0; polys <= 6; polys++) {
            fine(text.toString(), polys);
            text.append(";poly 0");
        }
    }

    private static void promise03TheTapeIsEmptyThen() {
        TermDesk desk = new TermDesk();
        Checks.answered("a desk", desk, Checks.tell(desk, RING), 0);
        Checks.due("bytes", desk.size(0), 0);
        Checks.refused("a fault", desk, Checks.tell(desk, "?"), 4);
        Checks.due("bytes", desk.size(0), 0);
    }

    private static void promise03AFaultLeavesTheDesk() {
        TermDesk desk = Checks.told(RING + ";poly x + 1");
        desk.add(0, 0, 1);
        desk.order(1, 1, 0);
        Checks.refused("a fault", desk, Checks.tell(desk, "ring prime 5 order rev z y x;poly y;poly z;poly ?"), 4);
        int[] about = {7, 1, 1, 0, 2, 2};
        for (int what = 0; what < 6; what++) {
            Checks.due("about " + what, desk.about(what), about[what]);
        }
        Checks.is("register 0", desk, 0, "1 x1 + 1");
        Checks.is("register 1", desk, 1, "2 x1 + 2");
        Checks.is("register 2", desk, 2, "");
        Checks.due("what can be undone", desk.size(1), 2);
        Checks.due("undo", desk.undo() && desk.undo(), true);
        Checks.due("the order is that of the desk", desk.about(1), 0);
    }

    private static void promise03ANumberLeavesTheDesk() {
        TermDesk desk = Checks.told(RING + ";poly x + 1");
        desk.add(0, 0, 1);
        Checks.refused("desk 1", desk, desk.desk(1), 2);
        Checks.is("register 1", desk, 1, "2 x1 + 2");
        Checks.due("what can be undone", desk.size(1), 1);
    }

    private static void promise03AFaultIsNoDesk() {
        TermDesk desk = new TermDesk();
        Checks.tell(desk, RING + ";poly x;poly ?");
        Checks.refused("about", desk, desk.about(0), 1);
        Checks.refused("terms", desk, desk.terms(0), 1);
        Checks.due("terms of all", desk.size(2), 0);
    }

    private static void promise03NothingToUndo() {
        TermDesk desk = Checks.told(RING + ";poly x");
        desk.add(0, 0, 1);
        desk.order(1, 0, 1);
        Checks.tell(desk, RING + ";poly y");
        Checks.due("size", desk.size(1), 0);
        Checks.due("undo", desk.undo(), false);
        Checks.is("register 0", desk, 0, "1 y1");
    }

    private static void promise03ThoseNotToldAreZero() {
        TermDesk desk = Checks.told(SIX);
        desk.add(0, 1, 6);
        desk.add(0, 1, 7);
        Checks.tell(desk, "ring prime 5 order deg z y x;poly y + z");
        Checks.is("register 0", desk, 0, "1 z1 + 1 y1");
        for (int r = 1; r < 8; r++) {
            Checks.is("register " + r, desk, r, "");
        }
    }

    // ---- 3: desk, TOKENS

    /** What a byte behind a whole poly LINE makes of the text, of all 256. */
    private static void promise03EachByteAlone() {
        for (int b = 0; b < 256; b++) {
            String text = RING + ";poly x" + (char) b;
            if (b == ' ' || b >= '1' && b <= '9') {
                fine(text, 1);
            } else if (b == '0') {
                faulty(text, 4, 35);
            } else if (b == ';' || b == '+' || b == '-') {
                faulty(text, 1, 36);
            } else {
                faulty(text, 1, b >= 'a' && b <= 'z' ? 34 : 35);
            }
        }
    }

    private static void promise03WordsHaveUpTo5Letters() {
        fine("ring prime 7 order lex x y z", 0);
        faulty("ring primex 7 order lex x y z", 1, 5);
        faulty("ring prime 7 orderx lex x y z", 1, 13);
        faulty("ring prime 7 orderlex x y z", 1, 13);
        faulty("ringring", 1, 0);
        faulty(RING + ";polyx", 1, 29);
        faulty(RING + ";poly xy", 1, 34);
        faulty(RING + ";poly xxxxxx", 1, 34);
    }

    private static void promise03WholesHaveUpTo4Digits() {
        TermDesk desk = Checks.told("ring prime 0007 order lex x y z;poly 9999 x 0015 + 0003 y 0001");
        Checks.is("4 digits", desk, 0, "3 x15 + 3 y1");
        faulty("ring prime 00007 order lex x y z", 1, 11);
        faulty("ring prime 10000 order lex x y z", 1, 11);
        faulty(RING + ";poly 12345", 1, 34);
        faulty(RING + ";poly 00001 x", 1, 34);
        faulty(RING + ";poly x 00001", 1, 36);
        faulty(RING + ";poly x 123456789", 1, 36);
        faulty(RING + " 00059 poly x", 1, 29);
    }

    /** Each letter of each WORD exchanged for another one. */
    private static void promise03NoOtherWords() {
        String text = RING + ";poly x";
        int[][] words = {{0, 4}, {5, 10}, {13, 18}, {19, 22}, {29, 33}};
        for (int[] word : words) {
            for (int at = word[0]; at < word[1]; at++) {
                for (char letter : new char[] {'a', 'q', 'z'}) {
                    faulty(text.substring(0, at) + letter + text.substring(at + 1), 1, word[0]);
                }
            }
            faulty(text.substring(0, word[1] - 1) + text.substring(word[1]), 1, word[0]);
        }
        for (String how : new String[] {"dex", "leg", "rex", "lev", "dev", "xex", "rel"}) {
            faulty("ring prime 7 order " + how + " x y z", 1, 19);
        }
        for (char letter = 'a'; letter < 'x'; letter++) {
            faulty(RING + ";poly " + letter, 1, 34);
        }
    }

    private static void promise03LettersThatStandTogetherAreOneWord() {
        faulty("ri ng prime 7 order lex x y z", 1, 0);
        faulty("ring pri me 7 order lex x y z", 1, 5);
        faulty("ringprime 7 order lex x y z", 1, 0);
        faulty("ring prime 7 order lex xy z", 1, 23);
        faulty("ring prime 7 order le x x y z", 1, 19);
    }

    private static void promise03DigitsThatStandTogetherAreOneWhole() {
        faulty("ring prime 1 1 order lex x y z", 2, 11);
        faulty("ring prime 3 1 order lex x y z", 1, 13);
        faulty(RING + ";poly x 1 5", 1, 38);
        faulty(RING + ";poly 1 5", 1, 36);
    }

    private static void promise03BlanksPartTokensAndMeanNothingElse() {
        TermDesk desk = new TermDesk();
        String text = "   ring   prime   7   order   lex   x   y   z   ;   poly   -   2   x   2   y   +   3   ;poly-x3y2z-1   ";
        Checks.answered(text, desk, Checks.tell(desk, text), 2);
        Checks.is("with many blanks", desk, 0, "5 x2 y1 + 3");
        Checks.is("with the fewest", desk, 1, "6 x3 y2 z1 + 6");
        fine("ring prime7order lex x y z;poly3x2y4+1-2z", 1);
    }

    // ---- 3: desk, its LINES

    private static void promise03EachPrimeAndNoOther() {
        for (int p = 0; p <= 9999; p = p < 120 ? p + 1 : p + 61) {
            boolean prime = p <= 97 && java.math.BigInteger.valueOf(p).isProbablePrime(30);
            if (prime) {
                TermDesk desk = Checks.told("ring prime " + p + " order lex x y z");
                Checks.due("prime", desk.about(0), p);
            } else {
                faulty("ring prime " + p + " order lex x y z", 2, 11);
            }
        }
    }

    private static void promise03EachOrder() {
        String[] hows = {"lex", "deg", "rev"};
        String[] unknowns = {"x y z", "x z y", "y x z", "y z x", "z x y", "z y x"};
        for (int how = 0; how < 3; how++) {
            for (String all : unknowns) {
                TermDesk desk = Checks.told("ring prime 3 order " + hows[how] + " " + all);
                Checks.due("how", desk.about(1), how);
                for (int i = 0; i < 3; i++) {
                    Checks.due("unknown " + i, desk.about(2 + i), all.charAt(2 * i) - 'x');
                }
            }
        }
        faulty("ring prime 7 order le x y z", 1, 19);
        faulty("ring prime 7 order lexi x y z", 1, 19);
        faulty("ring prime 7 order 0 x y z", 1, 19);
        faulty("ring prime 7 order lex w y z", 1, 23);
        faulty("ring prime 7 order lex x a z", 1, 25);
    }

    private static void promise03Wholes() {
        TermDesk desk = Checks.told(RING + ";poly 0;poly 7 x;poly 9999;poly 8 x - 1 y;poly x;poly 3 x2y3z4");
        String[] due = {"", "", "3", "1 x1 + 6 y1", "1 x1", "3 x2 y3 z4"};
        for (int r = 0; r < 6; r++) {
            Checks.is("poly " + r, desk, r, due[r]);
        }
    }

    private static void promise03ASignAheadOfTheFirstTerm() {
        TermDesk desk = Checks.told(RING + ";poly - x + y - z;poly -3;poly x - 6 y");
        Checks.is("- ahead", desk, 0, "6 x1 + 1 y1 + 6 z1");
        Checks.is("- 3", desk, 1, "4");
        Checks.is("- 6 y", desk, 2, "1 x1 + 1 y1");
        faulty(RING + ";poly + x", 1, 34);
        faulty(RING + ";poly - - x", 1, 36);
        faulty(RING + ";poly - + x", 1, 36);
        faulty(RING + ";poly -", 1, 35);
    }

    private static void promise03LikeTermsComeTogether() {
        TermDesk desk = Checks.told(RING + ";poly x y - y x;poly 3 x y2 + 3 y2x + x y2;poly 6 + 6 + x - x");
        Checks.is("to nothing", desk, 0, "");
        Checks.is("to nothing by 7", desk, 1, "");
        Checks.is("to a number", desk, 2, "5");
    }

    private static void promise03ExponentsAreFrom1To15() {
        for (int e = 1; e <= 15; e++) {
            TermDesk desk = Checks.told(RING + ";poly x " + e + ";poly 2 y" + e + ";poly x y z 0" + e);
            Checks.is("of x", desk, 0, "1 x" + e);
            Checks.is("of y", desk, 1, "2 y" + e);
            Checks.is("of z", desk, 2, "1 x1 y1 z" + e);
        }
        for (String e : new String[] {"0", "00", "0000", "16", "016", "99", "9999"}) {
            faulty(RING + ";poly x " + e, 4, 36);
            faulty(RING + ";poly 5 y" + e, 4, 37);
            faulty(RING + ";poly x15y2z" + e + ";poly ?", 4, 40);
        }
    }

    private static void promise03EachUnknownOnceInATerm() {
        fine(RING + ";poly x y z + x y z - z y x;poly x", 2);
        faulty(RING + ";poly x x", 3, 36);
        faulty(RING + ";poly 3 x 2 y x 99", 3, 42);
        faulty(RING + ";poly x y z z", 3, 40);
        faulty(RING + ";poly x y z x", 3, 40);
        faulty(RING + ";poly 1 + y2y3", 3, 40);
    }

    private static void promise03EachUnknownOnceInTheRing() {
        faulty("ring prime 7 order lex x x z", 3, 25);
        faulty("ring prime 7 order deg x y x", 3, 27);
        faulty("ring prime 7 order rev x y y", 3, 27);
        faulty("ring prime 7 order lex z z", 3, 25);
    }

    private static void promise03UpTo12Terms() {
        TermDesk desk = Checks.told(RING + ";poly 1+x+y+z-x2-y2-z2+x3+y3+z3+x4+y4;poly - x-x-x-x-x-x-x-x-x-x-x-x");
        Checks.due("12 terms", desk.terms(0), 12);
        Checks.is("12 alike", desk, 1, "2 x1");
        faulty(TWELVE + "+x", 5, TWELVE.length());
        faulty(TWELVE + " - x", 5, TWELVE.length() + 1);
        faulty(TWELVE + "+", 5, TWELVE.length());
        faulty(TWELVE + " - ?", 5, TWELVE.length() + 1);
        faulty(TWELVE + ";poly 0-0+0-0+0-0+0-0+0-0+0-0+0", 5, TWELVE.length() + 29);
    }

    private static void promise03UpTo6Polys() {
        fine(SIX, 6);
        faulty(SIX + ";poly x", 5, SIX.length() + 1);
        faulty(SIX + ";  poly", 5, SIX.length() + 3);
        faulty(SIX + ";poly ?", 5, SIX.length() + 1);
    }

    private static void promise03TheRingIsAheadOfAllOthers() {
        faulty("poly x", 6, 0);
        faulty("  poly", 6, 2);
        faulty("poly x;" + RING, 6, 0);
        faulty("poly ?", 6, 0);
        faulty("poly x x;poly x;poly x;poly x;poly x;poly x;poly x", 6, 0);
    }

    private static void promise03OneRing() {
        faulty(RING + ";ring", 3, 29);
        faulty(RING + ";poly x; ring prime 4", 3, 37);
        faulty(RING + ";" + RING, 3, 29);
        faulty(SIX + ";ring", 3, SIX.length() + 1);
    }

    // ---- 3: desk, FAULTS

    private static void promise03FormAtTheTokenWithWhichNoDeskGoesOn() {
        faulty(";", 1, 0);
        faulty("7", 1, 0);
        faulty("x", 1, 0);
        faulty("prime", 1, 0);
        faulty("ring 7", 1, 5);
        faulty("ring;", 1, 4);
        faulty("ring prime x", 1, 11);
        faulty("ring prime -7", 1, 11);
        faulty("ring prime 7 lex x y z", 1, 13);
        faulty("ring prime 7 order x y z", 1, 19);
        faulty("ring prime 7 order lex x y;poly x", 1, 26);
        faulty("ring prime 7 order lex x 1 y z", 1, 25);
        faulty(RING + " poly x", 1, 29);
        faulty(RING + " 1", 1, 29);
        faulty(RING + ";;poly x", 1, 29);
        faulty(RING + ";poly;", 1, 33);
        faulty(RING + ";poly poly", 1, 34);
        faulty(RING + ";poly x + ;poly y", 1, 38);
        faulty(RING + ";poly x + + y", 1, 38);
        faulty(RING + ";poly x 2 3", 1, 38);
        faulty(RING + ";poly x y 2 w", 1, 40);
        faulty(RING + ";poly x poly y", 1, 36);
    }

    private static void promise03FormAtTheEnd() {
        String[] texts = {"ring", "ring prime", "ring prime 7", "ring prime 7 order", "ring prime 7 order lex",
            "ring prime 7 order lex x", "ring prime 7 order lex x y", RING + ";", RING + ";poly", RING + ";poly -",
            RING + ";poly x +", RING + ";poly x - ", RING + ";poly x;"};
        for (String text : texts) {
            faulty(text, 1, text.length());
            faulty(text + "   ", 1, text.length() + 3);
        }
        faulty("   ", 1, 3);
    }

    private static void promise03TheFirstFaultFromTheLeft() {
        faulty("ring prime 4 order lex x x z;poly x 16", 2, 11);
        faulty("ring prime 9999 ?", 2, 11);
        faulty("ring prime ? 4", 1, 11);
        faulty("ring prime 7 order lex x x z;poly x 16", 3, 25);
        faulty("ring prime 7 order lex x x ?", 3, 25);
        faulty(RING + ";poly x 16 x", 4, 36);
        faulty(RING + ";poly x x 16", 3, 36);
        faulty(RING + ";poly x 0 ?", 4, 36);
        faulty(RING + ";poly ?;ring", 1, 34);
        faulty("poly x 99;ring prime 4", 6, 0);
    }

    private static void promise03OfOnePlaceTheLeastNumber() {
        faulty(RING + " z", 1, 29);
        faulty(RING + " ring", 1, 29);
        faulty(RING + ";poly x ring", 1, 36);
        faulty("ring poly x", 1, 5);
        faulty("", 1, 0);
        faulty("ring prime 99999 order lex x y z", 1, 11);
        faulty(RING + ";poly x 99999", 1, 36);
        faulty(TWELVE + " ?", 1, TWELVE.length() + 1);
        faulty(SIX + ";?", 1, SIX.length() + 1);
    }

    // ---- 4: fault

    private static void promise04ZeroWithoutOne() {
        TermDesk desk = new TermDesk();
        Checks.due("no desk yet", desk.fault(), 0);
        Checks.tell(desk, RING);
        Checks.due("a desk", desk.fault(), 0);
        desk.terms(8);
        Checks.due("a refused call", desk.fault(), 0);
    }

    private static void promise04EachNumber() {
        String[] texts = {"?", "ring prime 1", RING + ";ring", RING + ";poly x 0", SIX + ";poly", "poly"};
        TermDesk desk = new TermDesk();
        for (int i = 0; i < 6; i++) {
            Checks.tell(desk, texts[i]);
            Checks.due("fault", desk.fault(), i + 1);
        }
        Checks.tell(desk, RING);
        Checks.due("0 then", desk.fault(), 0);
    }

    private static void promise04ADeskRefusedBy2LeavesIt() {
        TermDesk desk = new TermDesk();
        desk.desk(-1);
        Checks.due("none yet", desk.fault(), 0);
        Checks.tell(desk, "poly");
        desk.desk(1);
        Checks.due("the one before", desk.fault(), 6);
        Checks.tell(desk, RING);
        desk.desk(1);
        Checks.due("none", desk.fault(), 0);
    }

    private static void promise04OtherCallsLeaveIt() {
        TermDesk desk = Checks.told(RING + ";poly x");
        Checks.tell(desk, "ring prime 4");
        desk.add(0, 0, 1);
        desk.terms(8);
        desk.undo();
        desk.feed(0, 0, 0, 0, 0);
        Checks.due("the fault still", desk.fault(), 2);
    }

    // ---- 5: where

    private static void promise05NoneWithoutAFault() {
        TermDesk desk = new TermDesk();
        Checks.due("new", desk.where(), -1);
        Checks.tell(desk, RING);
        Checks.due("a desk", desk.where(), -1);
        desk.terms(8);
        Checks.due("a call refused by 1", desk.where(), -1);
    }

    private static void promise05ThePlaceOften() {
        TermDesk desk = new TermDesk();
        Checks.tell(desk, RING + ";poly ?");
        Checks.due("where", desk.where(), 34);
        Checks.due("where again", desk.where(), 34);
        Checks.tell(desk, "?");
        Checks.due("the latest", desk.where(), 0);
    }

    private static void promise05CallsThatMayNotBeRefusedLeaveIt() {
        TermDesk desk = new TermDesk();
        Checks.tell(desk, "  ?");
        desk.feed(0, 0, 0, 0, 0);
        Checks.due("behind feed", desk.where(), 2);
        desk.fault();
        desk.where();
        desk.size(0);
        desk.size(9);
        desk.trouble();
        Checks.constantOrNone(desk, 0);
        Checks.due("behind fault, where, size, trouble, constant", desk.where(), 2);
        for (int i = 0; i < 36; i++) {
            desk.feed(0, 0, 0, 0, 0);
        }
        Checks.due("behind a feed that brings none", desk.where(), 2);
    }

    private static TermDesk withAFault() {
        TermDesk desk = Checks.told(RING + ";poly x + y;poly x");
        Checks.tell(desk, "?");
        Checks.due("where", desk.where(), 0);
        return desk;
    }

    private static int ask(TermDesk desk, int call, int r) {
        return switch (call) {
            case 0 -> desk.about(r);
            case 1 -> desk.terms(r);
            case 2 -> desk.term(r, 0, 0);
            case 3 -> desk.degree(r);
            case 4 -> desk.degreeIn(r, 0);
            case 5 -> desk.coefficient(r, 0, 0, 0);
            case 6 -> desk.value(r, 0, 0, 0);
            case 7 -> desk.roots(r);
            case 8 -> desk.same(r, 0);
            case 9 -> desk.ahead(r, 0, 0, 0, 0, 0);
            case 10 -> desk.leadBy(r, 0, 0, 1);
            case 11 -> desk.divided(r, 2, 0);
            case 12 -> desk.divides(r, 0);
            case 13 -> desk.missing(r < 0 ? r : 3);
            case 14 -> desk.add(r, 0, 7);
            case 15 -> desk.less(r, 0, 7);
            case 16 -> desk.times(r, 0, 7);
            case 17 -> desk.scale(r, 1, 0, 0, 0, 7);
            case 18 -> desk.monic(r, 7);
            case 19 -> desk.derive(r, 0, 7);
            case 20 -> desk.put(r, 0, 0, 7);
            case 21 -> desk.swap(r, 0, 1, 7);
            case 22 -> desk.rest(r, 2, 7);
            case 23 -> desk.quotient(r, 2, 1, 7);
            case 24 -> desk.pair(r, 1, 7);
            case 25 -> desk.common(r, 1, 7);
            case 26 -> desk.content(r, 7);
            case 27 -> desk.primitive(r, 7);
            case 28 -> desk.complete(r < 0 ? r : 3);
            case 29 -> desk.order(r, 1, 0);
            case 30 -> desk.undo() ? 1 : 0;
            default -> desk.desk(r);
        };
    }

    private static void promise05NoneBehindEachCallThatIsNotRefused() {
        for (int call = 0; call < 30; call++) {
            TermDesk desk = withAFault();
            ask(desk, call, 0);
            Checks.trouble("call " + call, desk, 0);
            Checks.due("where behind call " + call, desk.where(), -1);
        }
        TermDesk desk = Checks.told(RING + ";poly x");
        desk.add(0, 0, 1);
        Checks.tell(desk, "?");
        Checks.due("undo", desk.undo(), true);
        Checks.due("where behind undo", desk.where(), -1);
    }

    private static void promise05NoneBehindEachCallRefusedByAnother() {
        for (int call = 0; call < 32; call++) {
            TermDesk desk = withAFault();
            ask(desk, call, -1);
            Checks.due("call " + call + " is refused", desk.trouble() == 1 || desk.trouble() == 2, true);
            Checks.due("where behind call " + call, desk.where(), -1);
        }
    }

    // ---- 6: about

    private static void promise06EachWhat() {
        TermDesk desk = Checks.told("ring prime 97 order deg y z x;poly x;poly 97;poly z");
        int[] due = {97, 1, 1, 2, 0, 2};
        for (int what = 0; what < 6; what++) {
            Checks.answered("about " + what, desk, desk.about(what), due[what]);
        }
    }

    private static void promise06OtherWhats() {
        TermDesk desk = Checks.told(RING);
        for (int what : new int[] {-1, 6, 7, MIN, MAX}) {
            Checks.refused("about " + what, desk, desk.about(what), 1);
        }
    }

    private static void promise06NoDesk() {
        TermDesk desk = new TermDesk();
        for (int what = -1; what < 7; what++) {
            Checks.refused("about " + what, desk, desk.about(what), 1);
        }
    }

    private static void promise06RegistersThatArentZero() {
        TermDesk desk = Checks.told(RING + ";poly x;poly y");
        Checks.due("two", desk.about(5), 2);
        for (int k = 2; k < 8; k++) {
            desk.add(0, 1, k);
            Checks.answered("one more", desk, desk.about(5), k + 1);
        }
        for (int k = 7; k >= 0; k--) {
            desk.less(k, k, k);
            Checks.answered("one fewer", desk, desk.about(5), k);
        }
    }

    private static void promise06TheOrderAsItIsNow() {
        TermDesk desk = Checks.told(RING);
        desk.order(2, 2, 0);
        int[] due = {7, 2, 2, 0, 1, 0};
        for (int what = 0; what < 6; what++) {
            Checks.answered("about " + what, desk, desk.about(what), due[what]);
        }
    }
}
