import java.util.Arrays;
import java.util.NoSuchElementException;

/**
 * Polynomials of three unknowns by a prime, in eight registers, told as a text and worked on by
 * acts that can be undone. The numbered promises are in the document DOC.md.
 */
public final class TermDesk {
    /** There is none; refused. */
    public static final int NONE = -1;

    private static final int TAPE_BYTES = 700;
    private static final int FED_BYTES = 20;
    private static final int REGISTERS = 8;
    private static final int MOST_SET = 255;
    private static final int UNKNOWNS = 3;
    private static final int MOST_TERMS = 60;
    private static final int MOST_EXPONENT = 15;
    private static final int EXPONENTS = 16;
    private static final int MOST_STEPS = 500;
    private static final int MOST_CHOICES = 10000;
    private static final int MOST_UNDONE = 8;

    private static final int OF_ZERO = -2;
    private static final int COMPLETE_ALREADY = -2;
    private static final int NOT_COMPARED = -2;

    private static final int NO_SUCH = 1;
    private static final int BAD_NUMBER = 2;
    private static final int NO_ROOM = 3;
    private static final int FAULTY = 4;
    private static final int NOT_SO = 5;

    private static final int[] PRIMES = {
        2, 3, 5, 7, 11, 13, 17, 19, 23, 29, 31, 37, 41, 43, 47, 53, 59, 61, 67, 71, 73, 79, 83, 89, 97
    };

    private final int[] tape = new int[TAPE_BYTES];
    private int tapeSize = 0;
    private int lastTrouble = 0;
    private int lastFault = 0;
    private int faultPlace = NONE;
    private boolean hasDesk = false;

    private final Modulus modulus = new Modulus();
    private final Order ranking = new Order();
    private final Arithmetic arithmetic = new Arithmetic(modulus, ranking);
    private final Reader reader = new Reader();
    private final Divider divider = new Divider(arithmetic);
    private final Commons commons = new Commons(arithmetic);
    private final History history = new History();
    private final Poly[] registers = new Poly[REGISTERS];
    private final Poly result = new Poly();

    public TermDesk() {
        for (int r = 0; r < REGISTERS; r++) {
            registers[r] = new Poly();
        }
    }

    // ---- the desk

    public int feed(int a, int b, int c, int d, int e) {
        if (tapeSize + FED_BYTES > TAPE_BYTES) {
            return NONE;
        }
        takeBytes(a);
        takeBytes(b);
        takeBytes(c);
        takeBytes(d);
        takeBytes(e);
        return tapeSize;
    }

    public int desk(int n) {
        if (n < 0 || n > tapeSize) {
            return refuse(BAD_NUMBER);
        }
        tapeSize = 0;
        if (!reader.read(tape, n)) {
            lastFault = reader.faultNumber;
            refuse(FAULTY);
            faultPlace = reader.faultAt;
            return NONE;
        }
        lastFault = 0;
        takeDesk();
        return accept(reader.polyCount);
    }

    public int fault() {
        return lastFault;
    }

    public int where() {
        return faultPlace;
    }

    public int about(int what) {
        if (!hasDesk) {
            return refuse(NO_SUCH);
        }
        switch (what) {
            case 0:
                return accept(modulus.prime);
            case 1:
                return accept(ranking.how);
            case 2:
                return accept(ranking.first);
            case 3:
                return accept(ranking.second);
            case 4:
                return accept(ranking.third);
            case 5:
                return accept(countFilled());
            default:
                return refuse(NO_SUCH);
        }
    }

    // ---- polynomials

    public int terms(int r) {
        if (!isRegister(r)) {
            return refuse(NO_SUCH);
        }
        return accept(registers[r].count);
    }

    public int term(int r, int k, int what) {
        if (!isRegister(r) || k < 0 || k >= registers[r].count || what < 0 || what > 4) {
            return refuse(NO_SUCH);
        }
        int mark = registers[r].marks[k];
        if (what == 0) {
            return accept(registers[r].coefs[k]);
        }
        if (what == 4) {
            return accept(totalOf(mark));
        }
        return accept(exponentOf(mark, what - 1));
    }

    public int degree(int r) {
        if (!isRegister(r)) {
            return refuse(NO_SUCH);
        }
        Poly poly = registers[r];
        int most = OF_ZERO;
        for (int i = 0; i < poly.count; i++) {
            most = Math.max(most, totalOf(poly.marks[i]));
        }
        return accept(most);
    }

    public int degreeIn(int r, int unknown) {
        if (!isRegister(r) || !isUnknown(unknown)) {
            return refuse(NO_SUCH);
        }
        Poly poly = registers[r];
        int most = OF_ZERO;
        for (int i = 0; i < poly.count; i++) {
            most = Math.max(most, exponentOf(poly.marks[i], unknown));
        }
        return accept(most);
    }

    public int coefficient(int r, int x, int y, int z) {
        if (!isRegister(r)) {
            return refuse(NO_SUCH);
        }
        if (!areExponents(x, y, z)) {
            return refuse(BAD_NUMBER);
        }
        return accept(registers[r].coefAt(ranking.markOf(x, y, z)));
    }

    public int value(int r, int a, int b, int c) {
        if (!isRegister(r)) {
            return refuse(NO_SUCH);
        }
        if (!modulus.has(a) || !modulus.has(b) || !modulus.has(c)) {
            return refuse(BAD_NUMBER);
        }
        return accept(arithmetic.valueAt(registers[r], a, b, c));
    }

    public int roots(int r) {
        if (!isRegister(r)) {
            return refuse(NO_SUCH);
        }
        int count = arithmetic.countRoots(registers[r]);
        return count < 0 ? refuse(NOT_SO) : accept(count);
    }

    public int same(int r, int q) {
        if (!isRegister(r) || !isRegister(q)) {
            return refuse(NO_SUCH);
        }
        return accept(registers[r].isLike(registers[q]) ? 1 : 0);
    }

    public int ahead(int x, int y, int z, int u, int v, int w) {
        if (!hasDesk) {
            refuse(NO_SUCH);
            return NOT_COMPARED;
        }
        if (!areExponents(x, y, z) || !areExponents(u, v, w)) {
            refuse(BAD_NUMBER);
            return NOT_COMPARED;
        }
        return accept(Integer.compare(ranking.markOf(x, y, z), ranking.markOf(u, v, w)));
    }

    public int leadBy(int r, int how, int first, int second) {
        if (!isRegister(r)) {
            return refuse(NO_SUCH);
        }
        if (!isOrder(how, first, second)) {
            return refuse(BAD_NUMBER);
        }
        Poly poly = registers[r];
        if (poly.count == 0) {
            return accept(OF_ZERO);
        }
        int mark = arithmetic.leadByAnother(poly, how, first, second);
        return accept(exponentOf(mark, 0) + 16 * exponentOf(mark, 1) + 256 * exponentOf(mark, 2));
    }

    // ---- what would be

    public int divided(int r, int set, int what) {
        if (!isRegister(r) || what < 0 || what > 3) {
            return refuse(NO_SUCH);
        }
        int number = divide(r, set);
        if (number != 0) {
            return refuse(number);
        }
        switch (what) {
            case 0:
                return accept(divider.steps);
            case 1:
                return accept(divider.remainder.count);
            case 2:
                return accept(divider.quotientTerms());
            default:
                return accept(divider.mostLeft);
        }
    }

    public int divides(int r, int of) {
        if (!isRegister(r) || !isRegister(of)) {
            return refuse(NO_SUCH);
        }
        int number = divide(of, 1 << r);
        if (number != 0) {
            return refuse(number);
        }
        return accept(divider.remainder.count == 0 ? 1 : 0);
    }

    public int missing(int set) {
        int number = setTrouble(set);
        if (number != 0) {
            return refuse(number);
        }
        int count = 0;
        for (int r = 0; r < REGISTERS; r++) {
            for (int q = r + 1; q < REGISTERS; q++) {
                if (isIn(set, r) && isIn(set, q)) {
                    if (!dividePair(r, q, set)) {
                        return refuse(NO_ROOM);
                    }
                    count += divider.remainder.count > 0 ? 1 : 0;
                }
            }
        }
        return accept(count);
    }

    // ---- acts: how many TERMS lie in REGISTER k then

    public int add(int r, int q, int k) {
        if (!isRegister(r) || !isRegister(q) || !isRegister(k)) {
            return refuse(NO_SUCH);
        }
        return layIf(arithmetic.mix(registers[r], 1, 0, registers[q], 1, 0, result), k);
    }

    public int less(int r, int q, int k) {
        if (!isRegister(r) || !isRegister(q) || !isRegister(k)) {
            return refuse(NO_SUCH);
        }
        int minusOne = modulus.prime - 1;
        return layIf(arithmetic.mix(registers[r], 1, 0, registers[q], minusOne, 0, result), k);
    }

    public int times(int r, int q, int k) {
        if (!isRegister(r) || !isRegister(q) || !isRegister(k)) {
            return refuse(NO_SUCH);
        }
        return layIf(arithmetic.multiply(registers[r], registers[q], result), k);
    }

    public int scale(int r, int c, int x, int y, int z, int k) {
        if (!isRegister(r) || !isRegister(k)) {
            return refuse(NO_SUCH);
        }
        if (!areExponents(x, y, z) || !modulus.has(c)) {
            return refuse(BAD_NUMBER);
        }
        return layIf(arithmetic.multiplyByTerm(registers[r], c, ranking.markOf(x, y, z), result), k);
    }

    public int monic(int r, int k) {
        if (!isRegister(r) || !isRegister(k)) {
            return refuse(NO_SUCH);
        }
        result.copyFrom(registers[r]);
        arithmetic.makeMonic(result);
        return lay(result, k);
    }

    public int derive(int r, int unknown, int k) {
        if (!isRegister(r) || !isUnknown(unknown) || !isRegister(k)) {
            return refuse(NO_SUCH);
        }
        arithmetic.derivative(registers[r], unknown, result);
        return lay(result, k);
    }

    public int put(int r, int unknown, int c, int k) {
        if (!isRegister(r) || !isUnknown(unknown) || !isRegister(k)) {
            return refuse(NO_SUCH);
        }
        if (!modulus.has(c)) {
            return refuse(BAD_NUMBER);
        }
        arithmetic.substitute(registers[r], unknown, c, result);
        return lay(result, k);
    }

    public int swap(int r, int unknown, int other, int k) {
        if (!isRegister(r) || !isUnknown(unknown) || !isUnknown(other) || !isRegister(k)) {
            return refuse(NO_SUCH);
        }
        arithmetic.exchange(registers[r], unknown, other, result);
        return lay(result, k);
    }

    public int rest(int r, int set, int k) {
        if (!isRegister(r) || !isRegister(k)) {
            return refuse(NO_SUCH);
        }
        int number = divide(r, set);
        return number != 0 ? refuse(number) : lay(divider.remainder, k);
    }

    public int quotient(int r, int set, int d, int k) {
        if (!isRegister(r) || !isRegister(d) || !isRegister(k)) {
            return refuse(NO_SUCH);
        }
        if (!isIn(set, d)) {
            return refuse(BAD_NUMBER);
        }
        int number = divide(r, set);
        return number != 0 ? refuse(number) : lay(divider.quotients[d], k);
    }

    public int pair(int r, int q, int k) {
        if (!isRegister(r) || !isRegister(q) || !isRegister(k) || r == q) {
            return refuse(NO_SUCH);
        }
        if (registers[r].count == 0 || registers[q].count == 0) {
            return refuse(NOT_SO);
        }
        return layIf(arithmetic.pairOf(registers[r], registers[q], result), k);
    }

    public int common(int r, int q, int k) {
        if (!isRegister(r) || !isRegister(q) || !isRegister(k)) {
            return refuse(NO_SUCH);
        }
        if (registers[r].hasUnknown(2) || registers[q].hasUnknown(2)) {
            return refuse(NOT_SO);
        }
        return layIf(commons.commonOf(registers[r], registers[q], result), k);
    }

    public int content(int r, int k) {
        if (!isRegister(r) || !isRegister(k)) {
            return refuse(NO_SUCH);
        }
        if (registers[r].hasUnknown(2)) {
            return refuse(NOT_SO);
        }
        return layIf(commons.contentOf(registers[r], result), k);
    }

    public int primitive(int r, int k) {
        if (!isRegister(r) || !isRegister(k)) {
            return refuse(NO_SUCH);
        }
        if (registers[r].hasUnknown(2)) {
            return refuse(NOT_SO);
        }
        return layIf(commons.primitiveOf(registers[r], result), k);
    }

    public int complete(int set) {
        int number = setTrouble(set);
        int free = firstZero();
        if (number == 0 && free == NONE) {
            number = NOT_SO;
        }
        if (number != 0) {
            return refuse(number);
        }
        for (int r = 0; r < REGISTERS; r++) {
            for (int q = r + 1; q < REGISTERS; q++) {
                if (isIn(set, r) && isIn(set, q)) {
                    if (!dividePair(r, q, set)) {
                        return refuse(NO_ROOM);
                    }
                    if (divider.remainder.count > 0) {
                        lay(divider.remainder, free);
                        return accept(free);
                    }
                }
            }
        }
        return accept(COMPLETE_ALREADY);
    }

    public int order(int how, int first, int second) {
        if (!hasDesk) {
            return refuse(NO_SUCH);
        }
        if (!isOrder(how, first, second)) {
            return refuse(BAD_NUMBER);
        }
        boolean already = ranking.isThat(how, first, second);
        history.keepOrder(ranking);
        if (!already) {
            exchangeOrder(how, first, second);
        }
        return accept(already ? 0 : 1);
    }

    public boolean undo() {
        if (history.count == 0) {
            refuse(NO_SUCH);
            return false;
        }
        int slot = history.takeNewest();
        int r = history.kinds[slot];
        if (isRegister(r)) {
            // every later exchange of the ORDER is undone by now, so the kept TERMS stand in it
            registers[r].copyFrom(history.polys[slot]);
        } else {
            exchangeOrder(history.hows[slot], history.firsts[slot], history.seconds[slot]);
        }
        accept(0);
        return true;
    }

    // ---- what is told

    public int constant(int i) throws NoSuchElementException {
        int seen = 0;
        for (int r = 0; r < REGISTERS; r++) {
            if (registers[r].isNumber()) {
                if (seen == i) {
                    return r;
                }
                seen++;
            }
        }
        throw new NoSuchElementException("no such constant");
    }

    public int size(int what) {
        switch (what) {
            case 0:
                return tapeSize;
            case 1:
                return history.count;
            case 2:
                return countTerms();
            default:
                return NONE;
        }
    }

    public int trouble() {
        return lastTrouble;
    }

    // ---- refusals

    private int refuse(int number) {
        lastTrouble = number;
        faultPlace = NONE;
        return NONE;
    }

    private int accept(int answer) {
        lastTrouble = 0;
        faultPlace = NONE;
        return answer;
    }

    private boolean isRegister(int r) {
        return hasDesk && r >= 0 && r < REGISTERS;
    }

    private static boolean isUnknown(int unknown) {
        return unknown >= 0 && unknown < UNKNOWNS;
    }

    private static boolean isOrder(int how, int first, int second) {
        return how >= 0 && how <= 2 && isUnknown(first) && isUnknown(second) && first != second;
    }

    private static boolean isExponent(int n) {
        return n >= 0 && n <= MOST_EXPONENT;
    }

    private static boolean areExponents(int x, int y, int z) {
        return isExponent(x) && isExponent(y) && isExponent(z);
    }

    private static boolean isIn(int set, int r) {
        return (set >> r & 1) != 0;
    }

    private int setTrouble(int set) {
        if (!hasDesk) {
            return NO_SUCH;
        }
        if (set < 1 || set > MOST_SET) {
            return BAD_NUMBER;
        }
        for (int r = 0; r < REGISTERS; r++) {
            if (isIn(set, r) && registers[r].count == 0) {
                return NOT_SO;
            }
        }
        return 0;
    }

    // ---- exponents of a mark

    private static int exponentOf(int mark, int unknown) {
        return mark >> 5 * unknown & 31;
    }

    private static int totalOf(int mark) {
        return exponentOf(mark, 0) + exponentOf(mark, 1) + exponentOf(mark, 2);
    }

    // ---- what the calls share

    private void takeBytes(int four) {
        for (int shift = 24; shift >= 0; shift -= 8) {
            if (tapeSize < TAPE_BYTES) {
                tape[tapeSize] = four >> shift & 255;
                tapeSize++;
            }
        }
    }

    private void takeDesk() {
        modulus.choose(reader.modulus.prime);
        ranking.choose(reader.ranking.how, reader.ranking.first, reader.ranking.second);
        for (int r = 0; r < REGISTERS; r++) {
            registers[r].count = 0;
            if (r < reader.polyCount && r < Reader.MOST_POLYS) {
                registers[r].copyFrom(reader.polys[r]);
            }
        }
        history.forget();
        hasDesk = true;
    }

    private int countFilled() {
        int filled = 0;
        for (int r = 0; r < REGISTERS; r++) {
            filled += registers[r].count > 0 ? 1 : 0;
        }
        return filled;
    }

    private int countTerms() {
        int all = 0;
        for (int r = 0; r < REGISTERS; r++) {
            all += registers[r].count;
        }
        return all;
    }

    private int firstZero() {
        for (int r = 0; r < REGISTERS; r++) {
            if (registers[r].count == 0) {
                return r;
            }
        }
        return NONE;
    }

    /** Divides a register by a set; answers the trouble, 0 if the divider holds what came of it. */
    private int divide(int r, int set) {
        int number = setTrouble(set);
        if (number != 0) {
            return number;
        }
        return divider.divideBy(registers[r], registers, set) ? 0 : NO_ROOM;
    }

    private boolean dividePair(int r, int q, int set) {
        return arithmetic.pairOf(registers[r], registers[q], result)
            && divider.divideBy(result, registers, set);
    }

    private int layIf(boolean room, int k) {
        return room ? lay(result, k) : refuse(NO_ROOM);
    }

    private int lay(Poly poly, int k) {
        history.keepRegister(k, registers[k]);
        registers[k].copyFrom(poly);
        return accept(poly.count);
    }

    private void exchangeOrder(int how, int first, int second) {
        ranking.choose(how, first, second);
        for (int r = 0; r < REGISTERS; r++) {
            arithmetic.rankAnew(registers[r]);
        }
    }

    /** Numbers modulo the PRIME; without one (0) all of them are 0. */
    private static final class Modulus {
        int prime = 0;
        private final int[] inverses = new int[98];

        static boolean isPrime(int n) {
            for (int i = 0; i < PRIMES.length; i++) {
                if (PRIMES[i] == n) {
                    return true;
                }
            }
            return false;
        }

        void choose(int p) {
            if (!isPrime(p)) {
                return;
            }
            prime = p;
            inverses[1] = 1;
            for (int n = 2; n < p; n++) {
                inverses[n] = (p - p / n) * inverses[p % n] % p;
            }
        }

        boolean has(int n) {
            return n >= 0 && n < prime;
        }

        int reduce(int n) {
            if (prime < 2) {
                return 0;
            }
            int left = n % prime;
            return left < 0 ? left + prime : left;
        }

        /** Of 0 it is 0. */
        int inverseOf(int n) {
            return n > 0 && n < prime ? inverses[n] : 0;
        }
    }

    /**
     * The ORDER. A TERM's mark is one number that holds its three EXPONENTS (5 bits each, the
     * highest of them free) below its rank: the greater mark is ahead, and as ranks are sums of
     * EXPONENTS by weights, the mark of a product is the sum of the marks.
     */
    private static final class Order {
        static final int OVERFLOW = 16 | 16 << 5 | 16 << 10;
        static final int EXPONENT_BITS = 15;
        static final int EXPONENT_MASK = (1 << EXPONENT_BITS) - 1;

        int how = 0;
        int first = 0;
        int second = 1;
        int third = 2;
        final int[] unitMarks = new int[UNKNOWNS];

        void choose(int newHow, int newFirst, int newSecond) {
            if (!isOrder(newHow, newFirst, newSecond)) {
                return;
            }
            how = newHow;
            first = newFirst;
            second = newSecond;
            third = UNKNOWNS - newFirst - newSecond;
            switch (newHow) {
                case 0:
                    weigh(256, 16, 1);
                    break;
                case 1:
                    weigh(256 + 16, 256 + 1, 256);
                    break;
                default:
                    weigh(256, 256 - 1, 256 - 16);
                    break;
            }
        }

        private void weigh(int ofFirst, int ofSecond, int ofThird) {
            unitMarks[first] = ofFirst << EXPONENT_BITS | 1 << 5 * first;
            unitMarks[second] = ofSecond << EXPONENT_BITS | 1 << 5 * second;
            unitMarks[third] = ofThird << EXPONENT_BITS | 1 << 5 * third;
        }

        boolean isThat(int otherHow, int otherFirst, int otherSecond) {
            return how == otherHow && first == otherFirst && second == otherSecond;
        }

        int markOf(int x, int y, int z) {
            return x * unitMarks[0] + y * unitMarks[1] + z * unitMarks[2];
        }

        int markAnew(int mark) {
            return markOf(exponentOf(mark, 0), exponentOf(mark, 1), exponentOf(mark, 2));
        }

        static boolean marksDivide(int by, int mark) {
            int lifted = mark & EXPONENT_MASK | OVERFLOW;
            return (lifted - (by & EXPONENT_MASK) & OVERFLOW) == OVERFLOW;
        }
    }

    /** Up to 60 TERMS, the marks falling. */
    private static final class Poly {
        final int[] marks = new int[MOST_TERMS];
        final int[] coefs = new int[MOST_TERMS];
        int count = 0;

        boolean append(int mark, int coef) {
            if (count < 0 || count >= MOST_TERMS) {
                return false;
            }
            marks[count] = mark;
            coefs[count] = coef;
            count++;
            return true;
        }

        void copyFrom(Poly other) {
            count = other.count;
            for (int i = 0; i < count; i++) {
                marks[i] = other.marks[i];
                coefs[i] = other.coefs[i];
            }
        }

        int leadMark() {
            return count > 0 ? marks[0] : 0;
        }

        int leadCoef() {
            return count > 0 ? coefs[0] : 0;
        }

        int coefAt(int mark) {
            for (int i = 0; i < count; i++) {
                if (marks[i] == mark) {
                    return coefs[i];
                }
            }
            return 0;
        }

        boolean isLike(Poly other) {
            if (count != other.count) {
                return false;
            }
            for (int i = 0; i < count; i++) {
                if (marks[i] != other.marks[i] || coefs[i] != other.coefs[i]) {
                    return false;
                }
            }
            return true;
        }

        boolean isNumber() {
            return count == 1 && marks[0] == 0;
        }

        boolean hasUnknown(int unknown) {
            for (int i = 0; i < count; i++) {
                if (exponentOf(marks[i], unknown) > 0) {
                    return true;
                }
            }
            return false;
        }

        void sort() {
            for (int i = 1; i < count; i++) {
                int mark = marks[i];
                int coef = coefs[i];
                int free = i;
                for (; free > 0 && marks[free - 1] < mark; free--) {
                    marks[free] = marks[free - 1];
                    coefs[free] = coefs[free - 1];
                }
                marks[free] = mark;
                coefs[free] = coef;
            }
        }

        /** Sorts TERMS that came in any order and joins those with like EXPONENTS. */
        void settle(Modulus modulus) {
            sort();
            int all = count;
            int i = 0;
            count = 0;
            for (int most = all; most > 0 && i < all; most--) {
                int mark = marks[i];
                int sum = 0;
                for (; i < all && marks[i] == mark; i++) {
                    sum += coefs[i];
                }
                sum = modulus.reduce(sum);
                if (sum != 0) {
                    append(mark, sum);
                }
            }
        }
    }

    /** What is made of polynomials; none of it may be made in a polynomial that it is made of. */
    private static final class Arithmetic {
        private static final int PLACES = EXPONENTS * EXPONENTS * EXPONENTS;

        final Modulus modulus;
        final Order ranking;
        private final Order another = new Order();
        private final Poly zero = new Poly();
        private final int[] sums = new int[PLACES];
        private final int[] turns = new int[UNKNOWNS];
        private final int[] outerPowers = new int[EXPONENTS];
        private final int[] middlePowers = new int[EXPONENTS];
        private final int[] innerRow = new int[EXPONENTS];

        Arithmetic(Modulus modulus, Order ranking) {
            this.modulus = modulus;
            this.ranking = ranking;
        }

        /** a times a TERM and b times a TERM, together; false: no room. */
        boolean mix(Poly a, int aCoef, int aMark, Poly b, int bCoef, int bMark, Poly out) {
            out.count = 0;
            int i = 0;
            int j = 0;
            for (int most = a.count + b.count; most > 0 && (i < a.count || j < b.count); most--) {
                int left = i < a.count ? a.marks[i] + aMark : NONE;
                int right = j < b.count ? b.marks[j] + bMark : NONE;
                int mark = Math.max(left, right);
                if ((mark & Order.OVERFLOW) != 0) {
                    return false;
                }
                int sum = 0;
                if (left == mark) {
                    sum += aCoef * a.coefs[i];
                    i++;
                }
                if (right == mark) {
                    sum += bCoef * b.coefs[j];
                    j++;
                }
                sum = modulus.reduce(sum);
                if (sum != 0 && !out.append(mark, sum)) {
                    return false;
                }
            }
            return true;
        }

        boolean multiplyByTerm(Poly a, int coef, int mark, Poly out) {
            if (coef == 0) {
                out.count = 0;
                return true;
            }
            return mix(a, coef, mark, zero, 0, 0, out);
        }

        /** The sum may have far more than 60 TERMS on the way, so it is laid out by EXPONENTS. */
        boolean multiply(Poly a, Poly b, Poly out) {
            out.count = 0;
            Arrays.fill(sums, 0);
            for (int i = 0; i < a.count; i++) {
                for (int j = 0; j < b.count; j++) {
                    int mark = a.marks[i] + b.marks[j];
                    if ((mark & Order.OVERFLOW) != 0) {
                        return false;
                    }
                    sums[mark & 15 | mark >> 1 & 240 | mark >> 2 & 3840] += a.coefs[i] * b.coefs[j];
                }
            }
            for (int place = 0; place < PLACES; place++) {
                int coef = modulus.reduce(sums[place]);
                if (coef != 0) {
                    int mark = ranking.markOf(place & 15, place >> 4 & 15, place >> 8);
                    if (!out.append(mark, coef)) {
                        return false;
                    }
                }
            }
            out.sort();
            return true;
        }

        void makeMonic(Poly poly) {
            int factor = modulus.inverseOf(poly.leadCoef());
            for (int i = 0; i < poly.count; i++) {
                poly.coefs[i] = modulus.reduce(poly.coefs[i] * factor);
            }
        }

        void derivative(Poly a, int unknown, Poly out) {
            out.count = 0;
            for (int i = 0; i < a.count; i++) {
                int coef = modulus.reduce(a.coefs[i] * exponentOf(a.marks[i], unknown));
                if (coef != 0) {
                    out.append(a.marks[i] - ranking.unitMarks[unknown], coef);
                }
            }
        }

        void substitute(Poly a, int unknown, int c, Poly out) {
            out.count = 0;
            for (int i = 0; i < a.count; i++) {
                int exponent = exponentOf(a.marks[i], unknown);
                int mark = a.marks[i] - exponent * ranking.unitMarks[unknown];
                out.append(mark, modulus.reduce(a.coefs[i] * power(c, exponent)));
            }
            out.settle(modulus);
        }

        void exchange(Poly a, int unknown, int other, Poly out) {
            out.count = 0;
            int change = ranking.unitMarks[other] - ranking.unitMarks[unknown];
            for (int i = 0; i < a.count; i++) {
                int mark = a.marks[i];
                int more = exponentOf(mark, unknown) - exponentOf(mark, other);
                out.append(mark + more * change, a.coefs[i]);
            }
            out.sort();
        }

        boolean pairOf(Poly a, Poly b, Poly out) {
            int least = leastBoth(a.leadMark(), b.leadMark());
            int aFactor = modulus.inverseOf(a.leadCoef());
            int bFactor = modulus.prime - modulus.inverseOf(b.leadCoef());
            return mix(a, aFactor, least - a.leadMark(), b, bFactor, least - b.leadMark(), out);
        }

        /** The mark of the least EXPONENTS that both marks divide. */
        private int leastBoth(int mark, int other) {
            int least = 0;
            for (int u = 0; u < UNKNOWNS; u++) {
                int most = Math.max(exponentOf(mark, u), exponentOf(other, u));
                least += most * ranking.unitMarks[u];
            }
            return least;
        }

        void rankAnew(Poly poly) {
            for (int i = 0; i < poly.count; i++) {
                poly.marks[i] = ranking.markAnew(poly.marks[i]);
            }
            poly.sort();
        }

        int leadByAnother(Poly poly, int how, int first, int second) {
            another.choose(how, first, second);
            int lead = 0;
            for (int i = 0; i < poly.count; i++) {
                lead = Math.max(lead, another.markAnew(poly.marks[i]));
            }
            return lead;
        }

        int power(int base, int exponent) {
            int product = 1;
            for (int i = 0; i < exponent; i++) {
                product = modulus.reduce(product * base);
            }
            return product;
        }

        int valueAt(Poly poly, int a, int b, int c) {
            int sum = 0;
            for (int i = 0; i < poly.count; i++) {
                int mark = poly.marks[i];
                int product = poly.coefs[i] * power(a, exponentOf(mark, 0));
                product = modulus.reduce(product) * power(b, exponentOf(mark, 1));
                product = modulus.reduce(product) * power(c, exponentOf(mark, 2));
                sum += modulus.reduce(product);
            }
            return modulus.reduce(sum);
        }

        /**
         * NONE if there are too many choices. Unknowns that occur take the inner loops, where a
         * row in one unknown alone is left.
         */
        int countRoots(Poly poly) {
            int occur = takeTurns(poly);
            int choices = 1;
            for (int i = 0; i < occur; i++) {
                choices *= modulus.prime;
            }
            if (choices > MOST_CHOICES) {
                return NONE;
            }
            int outerMost = occur > 2 ? modulus.prime : 1;
            int middleMost = occur > 1 ? modulus.prime : 1;
            int innerMost = occur > 0 ? modulus.prime : 1;
            int count = 0;
            for (int a = 0; a < outerMost; a++) {
                fillPowers(outerPowers, a);
                for (int b = 0; b < middleMost; b++) {
                    fillPowers(middlePowers, b);
                    fillInnerRow(poly);
                    count += rowRoots(innerMost);
                }
            }
            return count;
        }

        /** Lays the unknowns in turns, those that occur first; answers how many occur. */
        private int takeTurns(Poly poly) {
            int occur = 0;
            int absent = UNKNOWNS - 1;
            for (int u = 0; u < UNKNOWNS; u++) {
                if (poly.hasUnknown(u)) {
                    turns[occur] = u;
                    occur++;
                } else if (absent >= 0) {
                    turns[absent] = u;
                    absent--;
                }
            }
            return occur;
        }

        private void fillPowers(int[] powers, int base) {
            int product = 1;
            for (int e = 0; e < powers.length; e++) {
                powers[e] = product;
                product = modulus.reduce(product * base);
            }
        }

        private void fillInnerRow(Poly poly) {
            Arrays.fill(innerRow, 0);
            for (int i = 0; i < poly.count; i++) {
                int mark = poly.marks[i];
                int factor = outerPowers[exponentOf(mark, turns[2]) & 15];
                factor = modulus.reduce(factor * middlePowers[exponentOf(mark, turns[1]) & 15]);
                int place = exponentOf(mark, turns[0]) & 15;
                innerRow[place] = modulus.reduce(innerRow[place] + factor * poly.coefs[i]);
            }
        }

        private int rowRoots(int values) {
            int top = EXPONENTS - 1;
            for (; top > 0 && innerRow[top] == 0; top--) {
                continue;
            }
            int count = 0;
            for (int c = 0; c < values; c++) {
                int sum = 0;
                for (int e = top; e >= 0; e--) {
                    sum = modulus.reduce(sum * c + innerRow[e]);
                }
                count += sum == 0 ? 1 : 0;
            }
            return count;
        }
    }

    /** Reads the text of a DESK into a stage of its own, so that a FAULT leaves the DESK alone. */
    private static final class Reader {
        static final int MOST_POLYS = 6;
        private static final int MOST_TOLD = 12;
        private static final int MOST_LETTERS = 5;
        private static final int MOST_DIGITS = 4;

        private static final int END = 0;
        private static final int WORD = 1;
        private static final int WHOLE = 2;
        private static final int SIGN = 3;
        private static final int NO_TOKEN = 4;

        private static final int FORM = 1;
        private static final int NOT_PRIME = 2;
        private static final int AGAIN = 3;
        private static final int OUT_OF_BOUNDS = 4;
        private static final int MANY = 5;
        private static final int LACKS = 6;

        final Modulus modulus = new Modulus();
        final Order ranking = new Order();
        final Poly[] polys = new Poly[MOST_POLYS];
        int polyCount = 0;
        int faultNumber = 0;
        int faultAt = 0;

        private final int[] text = new int[TAPE_BYTES];
        private int length = 0;
        private int at = 0;
        private boolean hasRing = false;
        private int kind = END;
        private int start = 0;
        private int number = 0;

        Reader() {
            for (int i = 0; i < MOST_POLYS; i++) {
                polys[i] = new Poly();
            }
        }

        boolean read(int[] bytes, int n) {
            length = Math.min(n, Math.min(bytes.length, TAPE_BYTES));
            for (int i = 0; i < length; i++) {
                text[i] = bytes[i];
            }
            at = 0;
            polyCount = 0;
            hasRing = false;
            for (int lines = 0; lines <= TAPE_BYTES; lines++) {
                advance();
                if (!readLine()) {
                    return false;
                }
                if (kind == END) {
                    return hasRing || fail(LACKS);
                }
                if (!isSign(';')) {
                    return fail(FORM);
                }
            }
            return fail(FORM);
        }

        /** The fault lies at the TOKEN that is met. */
        private boolean fail(int fault) {
            faultNumber = fault;
            faultAt = start;
            return false;
        }

        private boolean readLine() {
            if (isWord("ring")) {
                return hasRing ? fail(AGAIN) : readRing();
            }
            if (!isWord("poly")) {
                return fail(FORM);
            }
            if (!hasRing) {
                return fail(LACKS);
            }
            return polyCount >= MOST_POLYS ? fail(MANY) : readPoly(polys[polyCount]);
        }

        private boolean readRing() {
            advance();
            if (!isWord("prime")) {
                return fail(FORM);
            }
            advance();
            if (kind != WHOLE) {
                return fail(FORM);
            }
            if (!Modulus.isPrime(number)) {
                return fail(NOT_PRIME);
            }
            modulus.choose(number);
            advance();
            if (!isWord("order")) {
                return fail(FORM);
            }
            advance();
            int how = isWord("lex") ? 0 : isWord("deg") ? 1 : isWord("rev") ? 2 : NONE;
            if (how == NONE) {
                return fail(FORM);
            }
            hasRing = true;
            return readUnknowns(how);
        }

        private boolean readUnknowns(int how) {
            int seen = 0;
            int first = NONE;
            int second = NONE;
            for (int i = 0; i < UNKNOWNS; i++) {
                advance();
                int unknown = unknownMet();
                if (unknown == NONE) {
                    return fail(FORM);
                }
                if (isIn(seen, unknown)) {
                    return fail(AGAIN);
                }
                seen |= 1 << unknown;
                first = i == 0 ? unknown : first;
                second = i == 1 ? unknown : second;
            }
            ranking.choose(how, first, second);
            advance();
            return true;
        }

        private boolean readPoly(Poly poly) {
            poly.count = 0;
            advance();
            boolean negative = isSign('-');
            if (negative) {
                advance();
            }
            for (int told = 1; told <= MOST_TOLD; told++) {
                if (!readTerm(poly, negative)) {
                    return false;
                }
                if (!isSign('+') && !isSign('-')) {
                    poly.settle(modulus);
                    polyCount++;
                    return true;
                }
                if (told < MOST_TOLD) {
                    negative = isSign('-');
                    advance();
                }
            }
            return fail(MANY);
        }

        private boolean readTerm(Poly poly, boolean negative) {
            int coef = 1;
            if (kind == WHOLE) {
                coef = number;
                advance();
            } else if (unknownMet() == NONE) {
                return fail(FORM);
            }
            int seen = 0;
            int mark = 0;
            for (int powers = 0; powers <= UNKNOWNS && unknownMet() != NONE; powers++) {
                int unknown = unknownMet();
                if (isIn(seen, unknown)) {
                    return fail(AGAIN);
                }
                seen |= 1 << unknown;
                advance();
                int exponent = 1;
                if (kind == WHOLE) {
                    if (number < 1 || number > MOST_EXPONENT) {
                        return fail(OUT_OF_BOUNDS);
                    }
                    exponent = number;
                    advance();
                }
                mark += exponent * ranking.unitMarks[unknown];
            }
            poly.append(mark, modulus.reduce(negative ? -coef : coef));
            return true;
        }

        private boolean isSign(char sign) {
            return kind == SIGN && number == sign;
        }

        private boolean isWord(String word) {
            if (kind != WORD || at - start != word.length()) {
                return false;
            }
            for (int i = 0; i < word.length(); i++) {
                if (text[start + i] != word.charAt(i)) {
                    return false;
                }
            }
            return true;
        }

        private int unknownMet() {
            if (kind != WORD || at - start != 1) {
                return NONE;
            }
            int letter = text[start];
            return letter >= 'x' && letter <= 'z' ? letter - 'x' : NONE;
        }

        /** Goes on to the TOKEN behind the one that is met. */
        private void advance() {
            for (; at < length && text[at] == ' '; at++) {
                continue;
            }
            start = at;
            number = 0;
            if (at >= length) {
                kind = END;
            } else if (isLetter(text[at])) {
                for (; at < length && isLetter(text[at]); at++) {
                    continue;
                }
                kind = at - start <= MOST_LETTERS ? WORD : NO_TOKEN;
            } else if (isDigit(text[at])) {
                for (; at < length && isDigit(text[at]); at++) {
                    number = 10 * number + text[at] - '0';
                }
                kind = at - start <= MOST_DIGITS ? WHOLE : NO_TOKEN;
            } else {
                number = text[at];
                kind = number == ';' || number == '+' || number == '-' ? SIGN : NO_TOKEN;
                at++;
            }
        }

        private static boolean isLetter(int c) {
            return c >= 'a' && c <= 'z';
        }

        private static boolean isDigit(int c) {
            return c >= '0' && c <= '9';
        }
    }

    /** DIVIDES by several at once and holds what came of the latest division. */
    private static final class Divider {
        private final Arithmetic arithmetic;
        final Poly[] quotients = new Poly[REGISTERS];
        final Poly remainder = new Poly();
        private Poly left = new Poly();
        private Poly next = new Poly();
        int steps = 0;
        int mostLeft = 0;

        Divider(Arithmetic arithmetic) {
            this.arithmetic = arithmetic;
            for (int d = 0; d < REGISTERS; d++) {
                quotients[d] = new Poly();
            }
        }

        /** False: no room. None of the set's divisors is ZERO. */
        boolean divideBy(Poly dividend, Poly[] divisors, int set) {
            left.copyFrom(dividend);
            remainder.count = 0;
            for (int d = 0; d < REGISTERS; d++) {
                quotients[d].count = 0;
            }
            mostLeft = left.count;
            steps = 0;
            for (int s = 0; s < MOST_STEPS && left.count > 0; s++) {
                int d = firstDivisor(divisors, set);
                boolean room = d == NONE ? moveLead() : subtract(divisors[d], quotients[d]);
                if (!room) {
                    return false;
                }
                steps++;
                mostLeft = Math.max(mostLeft, left.count);
            }
            return left.count == 0;
        }

        private int firstDivisor(Poly[] divisors, int set) {
            for (int d = 0; d < REGISTERS && d < divisors.length; d++) {
                if (isIn(set, d) && Order.marksDivide(divisors[d].leadMark(), left.leadMark())) {
                    return d;
                }
            }
            return NONE;
        }

        private boolean moveLead() {
            if (!remainder.append(left.leadMark(), left.leadCoef())) {
                return false;
            }
            for (int i = 1; i < left.count; i++) {
                left.marks[i - 1] = left.marks[i];
                left.coefs[i - 1] = left.coefs[i];
            }
            left.count--;
            return true;
        }

        private boolean subtract(Poly divisor, Poly quotient) {
            Modulus modulus = arithmetic.modulus;
            int mark = left.leadMark() - divisor.leadMark();
            int coef = modulus.reduce(left.leadCoef() * modulus.inverseOf(divisor.leadCoef()));
            if (!arithmetic.mix(left, 1, 0, divisor, modulus.prime - coef, mark, next)) {
                return false;
            }
            Poly old = left;
            left = next;
            next = old;
            return quotient.append(mark, coef);
        }

        int quotientTerms() {
            int all = 0;
            for (int d = 0; d < REGISTERS; d++) {
                all += quotients[d].count;
            }
            return all;
        }
    }

    /** What the latest ACTS have overlaid, the oldest forgotten when there are more than 8. */
    private static final class History {
        private static final int ORDER_ACT = NONE;

        final int[] kinds = new int[MOST_UNDONE];
        final int[] hows = new int[MOST_UNDONE];
        final int[] firsts = new int[MOST_UNDONE];
        final int[] seconds = new int[MOST_UNDONE];
        final Poly[] polys = new Poly[MOST_UNDONE];
        private int free = 0;
        int count = 0;

        History() {
            for (int i = 0; i < MOST_UNDONE; i++) {
                polys[i] = new Poly();
            }
        }

        void forget() {
            count = 0;
        }

        void keepRegister(int r, Poly old) {
            kinds[free] = r;
            polys[free].copyFrom(old);
            goOn();
        }

        void keepOrder(Order old) {
            kinds[free] = ORDER_ACT;
            hows[free] = old.how;
            firsts[free] = old.first;
            seconds[free] = old.second;
            goOn();
        }

        private void goOn() {
            free = (free + 1) % MOST_UNDONE;
            count = Math.min(count + 1, MOST_UNDONE);
        }

        int takeNewest() {
            free = (free + MOST_UNDONE - 1) % MOST_UNDONE;
            count = Math.max(count - 1, 0);
            return free;
        }
    }

    /**
     * A field with more than 500 elements over the numbers modulo the PRIME, so that polynomials
     * in y have values at enough places whatever the PRIME is. An element is told by the exponent
     * to which a generator makes it; ZERO by the exponent that is one too many.
     */
    private static final class Field {
        private static final int LEAST_ELEMENTS = 500;
        private static final int MOST_ELEMENTS = 97 * 97;
        /**
         * Elements are written with digits to the base PRIME, the generator as 10; for each of
         * PRIMES, what its first power with a digit too many is instead.
         */
        private static final int[] TAILS = {
            17, 4, 32, 60, 18, 32, 20, 34, 27, 44, 38, 52, 48, 52, 55, 58, 62, 68, 77, 74, 78, 83, 104,
            104, 104
        };

        private final int[] exponents = new int[MOST_ELEMENTS];
        private final int[] successors = new int[MOST_ELEMENTS];
        private final int[] numbers = new int[98];
        private int prime = 0;
        private int elements = 1;
        private int minusOne = 0;
        private int numberStride = 1;
        int zero = 0;

        void choose(int newPrime) {
            if (newPrime == prime || !Modulus.isPrime(newPrime)) {
                return;
            }
            prime = newPrime;
            elements = newPrime;
            for (int more = 0; more < 9 && elements < LEAST_ELEMENTS; more++) {
                elements *= newPrime;
            }
            zero = elements - 1;
            minusOne = newPrime == 2 ? 0 : zero / 2;
            numberStride = zero / Math.max(newPrime - 1, 1);
            fillExponents();
            fillSuccessors();
            fillNumbers();
        }

        private void fillExponents() {
            int tail = 0;
            for (int i = 0; i < PRIMES.length && i < TAILS.length; i++) {
                tail = PRIMES[i] == prime ? TAILS[i] : tail;
            }
            exponents[0] = zero;
            int element = 1;
            for (int e = 0; e < zero; e++) {
                if (element >= 0 && element < MOST_ELEMENTS) {
                    exponents[element] = e;
                }
                element = timesGenerator(element, tail);
            }
        }

        /** By digits: all go one place up, and the highest comes back as that many tails. */
        private int timesGenerator(int element, int tail) {
            if (prime < 2) {
                return 0;
            }
            int digits = element * prime;
            int highest = digits / Math.max(elements, 1);
            int product = 0;
            int place = 1;
            for (int i = 0; i < 9 && place < elements; i++) {
                product += (digits / place + highest * (tail / place % prime)) % prime * place;
                place *= prime;
            }
            return product;
        }

        /** Of each exponent that of the element and 1 together. */
        private void fillSuccessors() {
            for (int element = 1; element < elements && element < MOST_ELEMENTS; element++) {
                int lastDigit = prime < 2 ? 0 : element % prime;
                int more = lastDigit == prime - 1 ? element - lastDigit : element + 1;
                int e = exponents[element];
                if (e >= 0 && e < MOST_ELEMENTS && more >= 0 && more < MOST_ELEMENTS) {
                    successors[e] = exponents[more];
                }
            }
        }

        private void fillNumbers() {
            for (int n = 1; n < prime; n++) {
                int place = exponents[n] / Math.max(numberStride, 1);
                if (place >= 0 && place < numbers.length) {
                    numbers[place] = n;
                }
            }
        }

        int ofNumber(int n) {
            return n >= 0 && n < prime ? exponents[n] : zero;
        }

        /** NONE if the element is no number modulo the PRIME. */
        int numberOf(int a) {
            if (a == zero) {
                return 0;
            }
            int stride = Math.max(numberStride, 1);
            int place = a / stride;
            return a % stride == 0 && place >= 0 && place < numbers.length ? numbers[place] : NONE;
        }

        int product(int a, int b) {
            if (a == zero || b == zero) {
                return zero;
            }
            return a + b < zero ? a + b : a + b - zero;
        }

        int sum(int a, int b) {
            if (a == zero || b == zero) {
                return a == zero ? b : a;
            }
            int apart = b < a ? b - a + zero : b - a;
            if (apart < 0 || apart >= MOST_ELEMENTS) {
                return zero;
            }
            return product(a, successors[apart]);
        }

        int negative(int a) {
            return product(a, minusOne);
        }

        /** Of ZERO it is ZERO. */
        int inverse(int a) {
            return a == zero || a == 0 ? a : zero - a;
        }
    }

    /**
     * COMMON divisors, CONTENT and PRIMITIVE PART, on grids: the COEFFICIENT of x to the i-th, y to
     * the j-th lies at 32 i + j. The COMMON divisor of two primitive grids is put together from
     * those that their rows in x have where y is an element of the field.
     */
    private static final class Commons {
        private static final int WIDE = 32;
        private static final int CELLS = EXPONENTS * WIDE;

        private final Arithmetic arithmetic;
        private final Modulus modulus;
        private final Field field = new Field();
        private final int[] one = new int[CELLS];
        private final int[] two = new int[CELLS];
        private final int[] found = new int[CELLS];
        private final int[] dividend = new int[CELLS];
        private final int[] divisor = new int[CELLS];
        private final int[] quotient = new int[CELLS];
        private final int[] built = new int[CELLS];
        private final int[] oneContent = new int[WIDE];
        private final int[] twoContent = new int[WIDE];
        private final int[] leads = new int[WIDE];
        private final int[] other = new int[WIDE];
        private final int[] master = new int[WIDE];
        private int[] upper = new int[EXPONENTS];
        private int[] lower = new int[EXPONENTS];
        private int taken = 0;

        Commons(Arithmetic arithmetic) {
            this.arithmetic = arithmetic;
            this.modulus = arithmetic.modulus;
        }

        /** False: no room. */
        boolean commonOf(Poly a, Poly b, Poly out) {
            if (a.count == 0 || b.count == 0) {
                out.copyFrom(a.count == 0 ? b : a);
                arithmetic.makeMonic(out);
                return true;
            }
            load(a, one);
            load(b, two);
            takeContent(one, oneContent);
            takeContent(two, twoContent);
            strip(one, oneContent);
            strip(two, twoContent);
            joinRow(oneContent, twoContent, 0);
            findCommon();
            multiplyByRow(found, oneContent, quotient);
            if (!layOut(quotient, out)) {
                return false;
            }
            arithmetic.makeMonic(out);
            return true;
        }

        boolean contentOf(Poly a, Poly out) {
            load(a, one);
            takeContent(one, oneContent);
            Arrays.fill(found, 0);
            System.arraycopy(oneContent, 0, found, 0, WIDE);
            return layOut(found, out);
        }

        boolean primitiveOf(Poly a, Poly out) {
            load(a, one);
            takeContent(one, oneContent);
            strip(one, oneContent);
            return layOut(one, out);
        }

        private void load(Poly poly, int[] grid) {
            Arrays.fill(grid, 0);
            for (int i = 0; i < poly.count; i++) {
                int mark = poly.marks[i];
                int cell = (exponentOf(mark, 0) & 15) * WIDE + exponentOf(mark, 1);
                grid[cell] = poly.coefs[i];
            }
        }

        private boolean layOut(int[] grid, Poly out) {
            out.count = 0;
            for (int cell = 0; cell < CELLS; cell++) {
                if (grid[cell] != 0) {
                    int mark = arithmetic.ranking.markOf(cell / WIDE, cell % WIDE, 0);
                    if (!out.append(mark, grid[cell])) {
                        return false;
                    }
                }
            }
            out.sort();
            return true;
        }

        // ---- rows in y, by numbers

        private static int topOf(int[] row, int from, int places) {
            int top = places - 1;
            for (; top >= 0 && row[from + top] == 0; top--) {
                continue;
            }
            return top;
        }

        private void takeContent(int[] grid, int[] row) {
            Arrays.fill(row, 0);
            for (int x = 0; x < EXPONENTS; x++) {
                joinRow(row, grid, x * WIDE);
            }
            int top = topOf(row, 0, WIDE);
            int factor = top < 0 ? 0 : modulus.inverseOf(row[top]);
            for (int y = 0; y <= top; y++) {
                row[y] = modulus.reduce(row[y] * factor);
            }
        }

        /** The row becomes the common divisor of itself and the row of a grid at a cell. */
        private void joinRow(int[] row, int[] grid, int from) {
            System.arraycopy(grid, from, other, 0, WIDE);
            int rowTop = topOf(row, 0, WIDE);
            int otherTop = topOf(other, 0, WIDE);
            for (int turn = 0; turn <= 2 * WIDE && otherTop >= 0; turn++) {
                if (rowTop < otherTop) {
                    for (int i = 0; i < WIDE; i++) {
                        int kept = row[i];
                        row[i] = other[i];
                        other[i] = kept;
                    }
                    int keptTop = rowTop;
                    rowTop = otherTop;
                    otherTop = keptTop;
                } else {
                    reduceRow(row, rowTop, otherTop, modulus.inverseOf(other[otherTop]));
                    rowTop = topOf(row, 0, WIDE);
                }
            }
        }

        /** What the row leaves when it is divided by the other row. */
        private void reduceRow(int[] row, int rowTop, int otherTop, int factor) {
            int prime = modulus.prime;
            if (prime < 2 || otherTop < 0 || rowTop >= WIDE) {
                return;
            }
            for (int shift = rowTop - otherTop; shift >= 0; shift--) {
                int often = prime - row[shift + otherTop] * factor % prime;
                for (int i = 0; i <= otherTop; i++) {
                    row[shift + i] = (row[shift + i] + often * other[i]) % prime;
                }
            }
        }

        // ---- grids, by numbers

        /** Divides a grid by its content. */
        private void strip(int[] grid, int[] row) {
            Arrays.fill(divisor, 0);
            System.arraycopy(row, 0, divisor, 0, WIDE);
            if (isDivided(grid, divisor)) {
                System.arraycopy(quotient, 0, grid, 0, CELLS);
            }
        }

        /** Whether a grid is divided by another one without a rest; the quotient is laid aside. */
        private boolean isDivided(int[] grid, int[] by) {
            System.arraycopy(grid, 0, dividend, 0, CELLS);
            Arrays.fill(quotient, 0);
            int top = topOf(by, 0, CELLS);
            int factor = top < 0 ? 0 : modulus.inverseOf(by[top]);
            for (int cell = CELLS - 1; cell >= 0; cell--) {
                if (dividend[cell] != 0) {
                    int x = cell / WIDE - top / WIDE;
                    int y = cell % WIDE - top % WIDE;
                    int coef = modulus.reduce(dividend[cell] * factor);
                    if (x < 0 || y < 0 || !takeAway(by, top, x * WIDE + y, coef)) {
                        return false;
                    }
                    quotient[x * WIDE + y] = coef;
                }
            }
            return true;
        }

        /** False if the product goes beyond the grid, or there is no divisor. */
        private boolean takeAway(int[] by, int top, int shift, int coef) {
            int prime = modulus.prime;
            if (prime < 2) {
                return false;
            }
            for (int cell = 0; cell <= top; cell++) {
                if (by[cell] != 0) {
                    if (cell % WIDE + shift % WIDE >= WIDE || cell + shift >= CELLS) {
                        return false;
                    }
                    int sum = dividend[cell + shift] + (prime - coef) * by[cell];
                    dividend[cell + shift] = sum % prime;
                }
            }
            return top >= 0;
        }

        private void multiplyByRow(int[] grid, int[] row, int[] out) {
            Arrays.fill(out, 0);
            for (int cell = 0; cell < CELLS; cell++) {
                for (int y = 0; grid[cell] != 0 && y + cell % WIDE < WIDE; y++) {
                    out[cell + y] = modulus.reduce(out[cell + y] + grid[cell] * row[y]);
                }
            }
        }

        private static int topY(int[] grid) {
            int top = 0;
            for (int cell = 0; cell < CELLS; cell++) {
                top = grid[cell] != 0 ? Math.max(top, cell % WIDE) : top;
            }
            return top;
        }

        // ---- the common divisor of the two primitive grids

        /**
         * At an element where neither highest row in x vanishes, the degree in x is never too low,
         * and it is too high at no more than 450 elements; the field has enough others.
         */
        private void findCommon() {
            makeOne(found);
            int oneTop = topOf(one, 0, CELLS) / WIDE;
            int twoTop = topOf(two, 0, CELLS) / WIDE;
            if (oneTop <= 0 || twoTop <= 0) {
                return;
            }
            field.choose(modulus.prime);
            System.arraycopy(one, oneTop * WIDE, leads, 0, WIDE);
            joinRow(leads, two, twoTop * WIDE);
            int needed = topOf(leads, 0, WIDE) + Math.min(topY(one), topY(two)) + 1;
            int best = Math.min(oneTop, twoTop);
            startBuilding();
            for (int element = 0; element < field.zero; element++) {
                int top = commonAt(element, oneTop, twoTop);
                if (top == 0) {
                    return;
                }
                if (top > 0 && top <= best) {
                    if (top < best) {
                        best = top;
                        startBuilding();
                    }
                    takeElement(element, top);
                    if (taken >= needed) {
                        if (isFound()) {
                            return;
                        }
                        best = top - 1;
                        startBuilding();
                    }
                }
            }
        }

        private static void makeOne(int[] grid) {
            Arrays.fill(grid, 0);
            if (grid.length > 0) {
                grid[0] = 1;
            }
        }

        /**
         * Leaves in the upper row the common divisor of both grids where y is an element; answers
         * its degree, or NONE where a highest row vanishes.
         */
        private int commonAt(int element, int oneTop, int twoTop) {
            evaluate(one, element, upper);
            evaluate(two, element, lower);
            if (upper[oneTop] == field.zero || lower[twoTop] == field.zero) {
                return NONE;
            }
            int upperTop = oneTop;
            int lowerTop = twoTop;
            for (int turn = 0; turn <= 4 * EXPONENTS && lowerTop >= 0; turn++) {
                if (upperTop < lowerTop) {
                    int[] keptRow = upper;
                    upper = lower;
                    lower = keptRow;
                    int keptTop = upperTop;
                    upperTop = lowerTop;
                    lowerTop = keptTop;
                } else {
                    upperTop = reduceUpper(upperTop, lowerTop);
                }
            }
            return upperTop;
        }

        private void evaluate(int[] grid, int element, int[] row) {
            for (int x = 0; x < EXPONENTS; x++) {
                int sum = field.zero;
                for (int y = EXPONENTS - 1; y >= 0; y--) {
                    int number = field.ofNumber(grid[x * WIDE + y]);
                    sum = field.sum(field.product(sum, element), number);
                }
                row[x] = sum;
            }
        }

        /** What the upper row leaves when it is divided by the lower one; answers its degree. */
        private int reduceUpper(int upperTop, int lowerTop) {
            int factor = field.negative(field.inverse(lower[lowerTop]));
            for (int shift = upperTop - lowerTop; shift >= 0; shift--) {
                int often = field.product(upper[shift + lowerTop], factor);
                for (int x = 0; x <= lowerTop; x++) {
                    int more = field.product(often, lower[x]);
                    upper[shift + x] = field.sum(upper[shift + x], more);
                }
            }
            int top = lowerTop - 1;
            for (; top >= 0 && upper[top] == field.zero; top--) {
                continue;
            }
            return top;
        }

        private void startBuilding() {
            Arrays.fill(built, field.zero);
            Arrays.fill(master, field.zero);
            master[0] = field.ofNumber(1);
            taken = 0;
        }

        /**
         * Makes what is built agree with the upper row at one element more. The upper row is made
         * such that its highest COEFFICIENT is the value of leads: then all are values of
         * polynomials in y. Master vanishes at all elements taken already.
         */
        private void takeElement(int element, int top) {
            int scale = field.product(leadsAt(element), field.inverse(upper[top]));
            int step = field.inverse(valueAt(master, 0, element));
            for (int x = 0; x <= top; x++) {
                int now = valueAt(built, x * WIDE, element);
                int due = field.product(upper[x], scale);
                int more = field.product(field.sum(due, field.negative(now)), step);
                for (int y = 0; y <= taken && y < WIDE; y++) {
                    int cell = x * WIDE + y;
                    built[cell] = field.sum(built[cell], field.product(more, master[y]));
                }
            }
            int root = field.negative(element);
            for (int y = WIDE - 1; y >= 0; y--) {
                int below = y > 0 ? master[y - 1] : field.zero;
                master[y] = field.sum(below, field.product(root, master[y]));
            }
            taken++;
        }

        private int leadsAt(int element) {
            int sum = field.zero;
            for (int y = WIDE - 1; y >= 0; y--) {
                sum = field.sum(field.product(sum, element), field.ofNumber(leads[y]));
            }
            return sum;
        }

        private int valueAt(int[] cells, int from, int element) {
            int sum = field.zero;
            for (int y = WIDE - 1; y >= 0; y--) {
                sum = field.sum(field.product(sum, element), cells[from + y]);
            }
            return sum;
        }

        /** Whether what is built, its content taken out, divides both grids. */
        private boolean isFound() {
            boolean numbers = true;
            for (int cell = 0; cell < CELLS; cell++) {
                found[cell] = field.numberOf(built[cell]);
                numbers = numbers && found[cell] != NONE;
            }
            if (numbers) {
                takeContent(found, twoContent);
                strip(found, twoContent);
                if (isDivided(one, found) && isDivided(two, found)) {
                    return true;
                }
            }
            makeOne(found);
            return false;
        }
    }
}
