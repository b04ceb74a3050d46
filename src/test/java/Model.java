import java.util.ArrayDeque;
import java.util.ArrayList;
import java.util.Comparator;
import java.util.Deque;
import java.util.List;
import java.util.Map;
import java.util.TreeMap;

/**
 * The document once more, written for plainness alone and by other means than the class: maps
 * instead of rows, comparisons by the words of the ORDERS, common divisors by pseudo-remainders.
 */
final class Model {
    static final int NONE = -1;

    /** EXPONENTS of x, y, z by 256, 16, 1 to the COEFFICIENT. */
    static final class P extends TreeMap<Integer, Integer> {
        private static final long serialVersionUID = 1L;

        P() {
        }

        P(P other) {
            super(other);
        }
    }

    private record Rule(int how, int first, int second) {
    }

    private record Act(int register, P old, Rule rule) {
    }

    /** Thrown for NO ROOM. */
    static final class Full extends RuntimeException {
        private static final long serialVersionUID = 1L;
    }

    private final StringBuilder tape = new StringBuilder();
    private int trouble = 0;
    private int fault = 0;
    private int where = NONE;
    private int prime = 0;
    private Rule rule = null;
    private final P[] registers = new P[8];
    private final Deque<Act> acts = new ArrayDeque<>();

    Model() {
        for (int r = 0; r < 8; r++) {
            registers[r] = new P();
        }
    }

    /** One that is told a text of a DESK. */
    static Model told(String text) {
        Model model = new Model();
        model.tape.append(text);
        model.desk(text.length());
        return model;
    }

    // ---- what is told of a call

    private int no(int number) {
        trouble = number;
        where = NONE;
        return NONE;
    }

    private int yes(int answer) {
        trouble = 0;
        where = NONE;
        return answer;
    }

    private boolean reg(int... all) {
        for (int r : all) {
            if (rule == null || r < 0 || r > 7) {
                return false;
            }
        }
        return true;
    }

    private static boolean in(int low, int high, int... all) {
        for (int n : all) {
            if (n < low || n > high) {
                return false;
            }
        }
        return true;
    }

    // ---- the text

    int feed(int a, int b, int c, int d, int e) {
        if (tape.length() > 680) {
            return NONE;
        }
        for (int n : new int[] {a, b, c, d, e}) {
            for (int i = 3; i >= 0; i--) {
                tape.append((char) (n >>> 8 * i & 255));
            }
        }
        return tape.length();
    }

    /** A fault at a place. */
    private static final class Bad extends RuntimeException {
        private static final long serialVersionUID = 1L;
        final int number;
        final int place;

        Bad(int number, int place) {
            this.number = number;
            this.place = place;
        }
    }

    private record Token(String text, int place) {
    }

    private List<Token> tokens = List.of();
    private int met = 0;

    int desk(int n) {
        if (n < 0 || n > tape.length()) {
            return no(2);
        }
        String text = tape.substring(0, n);
        tape.setLength(0);
        int oldPrime = prime;
        Rule oldRule = rule;
        List<P> polys = new ArrayList<>();
        try {
            cut(text);
            readAll(polys);
        } catch (Bad bad) {
            prime = oldPrime;
            rule = oldRule;
            fault = bad.number;
            no(4);
            where = bad.place;
            return NONE;
        }
        fault = 0;
        for (int r = 0; r < 8; r++) {
            registers[r] = r < polys.size() ? polys.get(r) : new P();
        }
        acts.clear();
        return yes(polys.size());
    }

    private void cut(String text) {
        tokens = new ArrayList<>();
        met = 0;
        java.util.regex.Matcher matcher =
            java.util.regex.Pattern.compile("[a-z]+|[0-9]+|[;+-]| |(?s:.)").matcher(text);
        while (matcher.find()) {
            String t = matcher.group();
            if (!t.equals(" ")) {
                boolean fine = t.matches("[a-z]{1,5}|[0-9]{1,4}|[;+-]");
                tokens.add(new Token(fine ? t : "?", matcher.start()));
            }
        }
        tokens.add(new Token("", text.length()));
    }

    private String now() {
        return tokens.get(met).text;
    }

    private Bad bad(int number) {
        return new Bad(number, tokens.get(met).place);
    }

    private void need(String word) {
        if (!now().equals(word)) {
            throw bad(1);
        }
        met++;
    }

    private void readAll(List<P> polys) {
        boolean ring = false;
        while (true) {
            if (now().equals("ring")) {
                if (ring) {
                    throw bad(3);
                }
                readRing();
                ring = true;
            } else if (now().equals("poly")) {
                if (!ring) {
                    throw bad(6);
                }
                if (polys.size() == 6) {
                    throw bad(5);
                }
                met++;
                polys.add(readPoly());
            } else {
                throw bad(1);
            }
            if (now().isEmpty()) {
                return;
            }
            need(";");
        }
    }

    private void readRing() {
        need("ring");
        need("prime");
        if (!now().matches("[0-9]+")) {
            throw bad(1);
        }
        int p = Integer.parseInt(now());
        if (p > 97 || !java.math.BigInteger.valueOf(p).isProbablePrime(20)) {
            throw bad(2);
        }
        met++;
        need("order");
        int how = List.of("lex", "deg", "rev").indexOf(now());
        if (how < 0) {
            throw bad(1);
        }
        met++;
        String seen = "";
        for (int i = 0; i < 3; i++) {
            if (!now().matches("[xyz]")) {
                throw bad(1);
            }
            if (seen.contains(now())) {
                throw bad(3);
            }
            seen += now();
            met++;
        }
        prime = p;
        rule = new Rule(how, seen.charAt(0) - 'x', seen.charAt(1) - 'x');
    }

    private P readPoly() {
        P sum = new P();
        int sign = 1;
        int count = 0;
        if (now().equals("-")) {
            sign = -1;
            met++;
        }
        while (true) {
            readTerm(sum, sign);
            count++;
            if (!now().equals("+") && !now().equals("-")) {
                return sum;
            }
            if (count == 12) {
                throw bad(5);
            }
            sign = now().equals("-") ? -1 : 1;
            met++;
        }
    }

    private void readTerm(P sum, int sign) {
        int coefficient = 1;
        boolean any = false;
        if (now().matches("[0-9]+")) {
            coefficient = Integer.parseInt(now());
            any = true;
            met++;
        }
        String seen = "";
        int exponents = 0;
        while (now().matches("[xyz]")) {
            if (seen.contains(now())) {
                throw bad(3);
            }
            int weight = now().equals("x") ? 256 : now().equals("y") ? 16 : 1;
            seen += now();
            met++;
            any = true;
            int exponent = 1;
            if (now().matches("[0-9]+")) {
                exponent = Integer.parseInt(now());
                if (!in(1, 15, exponent)) {
                    throw bad(4);
                }
                met++;
            }
            exponents += weight * exponent;
        }
        if (!any) {
            throw bad(1);
        }
        more(sum, exponents, sign * coefficient);
    }

    int fault() {
        return fault;
    }

    int where() {
        return where;
    }

    int about(int what) {
        if (rule == null || !in(0, 5, what)) {
            return no(1);
        }
        int filled = 0;
        for (P p : registers) {
            filled += p.isEmpty() ? 0 : 1;
        }
        int third = 3 - rule.first - rule.second;
        return yes(new int[] {prime, rule.how, rule.first, rule.second, third, filled}[what]);
    }

    // ---- polynomials

    private void more(P sum, int exponents, int coefficient) {
        int c = Math.floorMod(sum.getOrDefault(exponents, 0) + coefficient, prime);
        if (c == 0) {
            sum.remove(exponents);
        } else {
            sum.put(exponents, c);
        }
    }

    static int exponent(int exponents, int unknown) {
        return exponents >> 8 - 4 * unknown & 15;
    }

    private static int total(int exponents) {
        return exponent(exponents, 0) + exponent(exponents, 1) + exponent(exponents, 2);
    }

    /** Less than 0: a is ahead. */
    private static int compare(Rule by, int a, int b) {
        int third = 3 - by.first - by.second;
        if (by.how > 0 && total(a) != total(b)) {
            return total(a) > total(b) ? -1 : 1;
        }
        int[] turns = by.how == 2 ? new int[] {third, by.second} : new int[] {by.first, by.second, third};
        for (int u : turns) {
            if (exponent(a, u) != exponent(b, u)) {
                boolean greater = exponent(a, u) > exponent(b, u);
                return greater == (by.how != 2) ? -1 : 1;
            }
        }
        return 0;
    }

    private List<Integer> sorted(P p, Rule by) {
        List<Integer> list = new ArrayList<>(p.keySet());
        list.sort((a, b) -> compare(by, a, b));
        return list;
    }

    private int lead(P p) {
        return java.util.Collections.min(p.keySet(), (Comparator<Integer>) (a, b) -> compare(rule, a, b));
    }

    private int inverse(int n) {
        for (int i = 1; i < prime; i++) {
            if (n * i % prime == 1) {
                return i;
            }
        }
        throw new IllegalStateException("no inverse");
    }

    int terms(int r) {
        return reg(r) ? yes(registers[r].size()) : no(1);
    }

    int term(int r, int k, int what) {
        if (!reg(r) || k < 0 || k >= registers[r].size() || !in(0, 4, what)) {
            return no(1);
        }
        int e = sorted(registers[r], rule).get(k);
        return yes(what == 0 ? registers[r].get(e) : what == 4 ? total(e) : exponent(e, what - 1));
    }

    int degree(int r) {
        return reg(r) ? yes(registers[r].keySet().stream().mapToInt(Model::total).max().orElse(-2)) : no(1);
    }

    int degreeIn(int r, int unknown) {
        if (!reg(r) || !in(0, 2, unknown)) {
            return no(1);
        }
        return yes(registers[r].keySet().stream().mapToInt(e -> exponent(e, unknown)).max().orElse(-2));
    }

    int coefficient(int r, int x, int y, int z) {
        if (!reg(r)) {
            return no(1);
        }
        return in(0, 15, x, y, z) ? yes(registers[r].getOrDefault(256 * x + 16 * y + z, 0)) : no(2);
    }

    private int power(int base, int exponent) {
        return java.math.BigInteger.valueOf(base).modPow(java.math.BigInteger.valueOf(exponent),
            java.math.BigInteger.valueOf(prime)).intValue();
    }

    private int valueOf(P p, int a, int b, int c) {
        int sum = 0;
        for (Map.Entry<Integer, Integer> t : p.entrySet()) {
            int e = t.getKey();
            int product = t.getValue() * power(a, exponent(e, 0)) % prime;
            sum += product * power(b, exponent(e, 1)) % prime * power(c, exponent(e, 2)) % prime;
        }
        return sum % prime;
    }

    int value(int r, int a, int b, int c) {
        if (!reg(r)) {
            return no(1);
        }
        return in(0, prime - 1, a, b, c) ? yes(valueOf(registers[r], a, b, c)) : no(2);
    }

    int roots(int r) {
        if (!reg(r)) {
            return no(1);
        }
        P p = registers[r];
        int[] most = {1, 1, 1};
        for (int e : p.keySet()) {
            for (int u = 0; u < 3; u++) {
                most[u] = exponent(e, u) > 0 ? prime : most[u];
            }
        }
        if (most[0] * most[1] * most[2] > 10000) {
            return no(5);
        }
        int count = 0;
        for (int a = 0; a < most[0]; a++) {
            for (int b = 0; b < most[1]; b++) {
                for (int c = 0; c < most[2]; c++) {
                    count += valueOf(p, a, b, c) == 0 ? 1 : 0;
                }
            }
        }
        return yes(count);
    }

    int same(int r, int q) {
        return reg(r, q) ? yes(registers[r].equals(registers[q]) ? 1 : 0) : no(1);
    }

    int ahead(int x, int y, int z, int u, int v, int w) {
        if (rule == null) {
            no(1);
            return -2;
        }
        if (!in(0, 15, x, y, z, u, v, w)) {
            no(2);
            return -2;
        }
        return yes(-compare(rule, 256 * x + 16 * y + z, 256 * u + 16 * v + w));
    }

    private static boolean isRule(int how, int first, int second) {
        return in(0, 2, how, first, second) && first != second;
    }

    int leadBy(int r, int how, int first, int second) {
        if (!reg(r)) {
            return no(1);
        }
        if (!isRule(how, first, second)) {
            return no(2);
        }
        if (registers[r].isEmpty()) {
            return yes(-2);
        }
        int e = sorted(registers[r], new Rule(how, first, second)).get(0);
        return yes(exponent(e, 0) + 16 * exponent(e, 1) + 256 * exponent(e, 2));
    }

    // ---- sums and products

    private static P fit(P p) {
        if (p.size() > 60) {
            throw new Full();
        }
        return p;
    }

    private static int together(int a, int b) {
        for (int u = 0; u < 3; u++) {
            if (exponent(a, u) + exponent(b, u) > 15) {
                throw new Full();
            }
        }
        return a + b;
    }

    private P sum(P a, P b, int factor) {
        P out = new P(a);
        for (Map.Entry<Integer, Integer> t : b.entrySet()) {
            more(out, t.getKey(), factor * t.getValue());
        }
        return out;
    }

    private P product(P a, P b) {
        P out = new P();
        for (Map.Entry<Integer, Integer> s : a.entrySet()) {
            for (Map.Entry<Integer, Integer> t : b.entrySet()) {
                more(out, together(s.getKey(), t.getKey()), s.getValue() * t.getValue());
            }
        }
        return out;
    }

    private P single(int exponents, int coefficient) {
        P out = new P();
        more(out, exponents, coefficient);
        return out;
    }

    private static boolean dividesTerm(int a, int b) {
        for (int u = 0; u < 3; u++) {
            if (exponent(a, u) > exponent(b, u)) {
                return false;
            }
        }
        return true;
    }

    private P pairOf(P a, P b) {
        int least = 0;
        for (int u = 0; u < 3; u++) {
            least += Math.max(exponent(lead(a), u), exponent(lead(b), u)) << 8 - 4 * u;
        }
        P one = product(a, single(least - lead(a), inverse(a.get(lead(a)))));
        P two = product(b, single(least - lead(b), inverse(b.get(lead(b)))));
        return fit(sum(one, two, -1));
    }

    // ---- division

    private int steps = 0;
    private int most = 0;
    private P restOf = new P();
    private P[] quotients = new P[8];

    private void divide(P dividend, int set) {
        steps = 0;
        most = dividend.size();
        restOf = new P();
        for (int d = 0; d < 8; d++) {
            quotients[d] = new P();
        }
        P left = new P(dividend);
        while (!left.isEmpty()) {
            if (steps == 500) {
                throw new Full();
            }
            steps++;
            int e = lead(left);
            int c = left.get(e);
            int by = 0;
            while (by < 8 && ((set >> by & 1) == 0 || !dividesTerm(lead(registers[by]), e))) {
                by++;
            }
            if (by == 8) {
                restOf.put(e, c);
                left.remove(e);
            } else {
                P divisor = registers[by];
                P t = single(e - lead(divisor), c * inverse(divisor.get(lead(divisor))));
                quotients[by] = sum(quotients[by], t, 1);
                left = sum(left, product(divisor, t), -1);
                fit(quotients[by]);
            }
            fit(left);
            fit(restOf);
            most = Math.max(most, left.size());
        }
    }

    private int setTrouble(int set) {
        if (!in(1, 255, set)) {
            return 2;
        }
        for (int r = 0; r < 8; r++) {
            if ((set >> r & 1) == 1 && registers[r].isEmpty()) {
                return 5;
            }
        }
        return 0;
    }

    private int tryDivide(int r, int set) {
        int number = setTrouble(set);
        if (number != 0) {
            return number;
        }
        try {
            divide(registers[r], set);
            return 0;
        } catch (Full full) {
            return 3;
        }
    }

    int divided(int r, int set, int what) {
        if (!reg(r) || !in(0, 3, what)) {
            return no(1);
        }
        int number = tryDivide(r, set);
        if (number != 0) {
            return no(number);
        }
        int all = 0;
        for (P p : quotients) {
            all += p.size();
        }
        return yes(new int[] {steps, restOf.size(), all, most}[what]);
    }

    int divides(int r, int of) {
        if (!reg(r, of)) {
            return no(1);
        }
        int number = tryDivide(of, 1 << r);
        return number != 0 ? no(number) : yes(restOf.isEmpty() ? 1 : 0);
    }

    private List<P> pairRests(int set, boolean all) {
        List<P> rests = new ArrayList<>();
        for (int r = 0; r < 8; r++) {
            for (int q = r + 1; q < 8; q++) {
                if ((set >> r & set >> q & 1) == 1) {
                    divide(pairOf(registers[r], registers[q]), set);
                    if (!restOf.isEmpty()) {
                        rests.add(restOf);
                        if (!all) {
                            return rests;
                        }
                    }
                }
            }
        }
        return rests;
    }

    int missing(int set) {
        if (rule == null) {
            return no(1);
        }
        int number = setTrouble(set);
        if (number != 0) {
            return no(number);
        }
        try {
            return yes(pairRests(set, true).size());
        } catch (Full full) {
            return no(3);
        }
    }

    // ---- acts

    private void keep(Act act) {
        acts.push(act);
        if (acts.size() > 8) {
            acts.removeLast();
        }
    }

    private int lay(int k, P p) {
        keep(new Act(k, registers[k], null));
        registers[k] = new P(p);
        return yes(p.size());
    }

    private interface Maker {
        P make();
    }

    private int layMade(int k, Maker maker) {
        P p;
        try {
            p = fit(maker.make());
        } catch (Full full) {
            return no(3);
        }
        return lay(k, p);
    }

    int add(int r, int q, int k) {
        return reg(r, q, k) ? layMade(k, () -> sum(registers[r], registers[q], 1)) : no(1);
    }

    int less(int r, int q, int k) {
        return reg(r, q, k) ? layMade(k, () -> sum(registers[r], registers[q], -1)) : no(1);
    }

    int times(int r, int q, int k) {
        return reg(r, q, k) ? layMade(k, () -> product(registers[r], registers[q])) : no(1);
    }

    int scale(int r, int c, int x, int y, int z, int k) {
        if (!reg(r, k)) {
            return no(1);
        }
        if (!in(0, 15, x, y, z) || !in(0, prime - 1, c)) {
            return no(2);
        }
        return layMade(k, () -> product(registers[r], single(256 * x + 16 * y + z, c)));
    }

    private P monicOf(P p) {
        return p.isEmpty() ? p : product(p, single(0, inverse(p.get(lead(p)))));
    }

    int monic(int r, int k) {
        return reg(r, k) ? layMade(k, () -> monicOf(registers[r])) : no(1);
    }

    int derive(int r, int unknown, int k) {
        if (!reg(r, k) || !in(0, 2, unknown)) {
            return no(1);
        }
        P out = new P();
        registers[r].forEach((e, c) -> {
            if (exponent(e, unknown) > 0) {
                more(out, e - (1 << 8 - 4 * unknown), c * exponent(e, unknown));
            }
        });
        return lay(k, out);
    }

    int put(int r, int unknown, int c, int k) {
        if (!reg(r, k) || !in(0, 2, unknown)) {
            return no(1);
        }
        if (!in(0, prime - 1, c)) {
            return no(2);
        }
        P out = new P();
        registers[r].forEach((e, f) -> {
            int exponent = exponent(e, unknown);
            more(out, e - (exponent << 8 - 4 * unknown), f * power(c, exponent));
        });
        return lay(k, out);
    }

    int swap(int r, int unknown, int other, int k) {
        if (!reg(r, k) || !in(0, 2, unknown, other)) {
            return no(1);
        }
        P out = new P();
        registers[r].forEach((e, c) -> {
            int[] all = {exponent(e, 0), exponent(e, 1), exponent(e, 2)};
            int kept = all[unknown];
            all[unknown] = all[other];
            all[other] = kept;
            more(out, 256 * all[0] + 16 * all[1] + all[2], c);
        });
        return lay(k, out);
    }

    int rest(int r, int set, int k) {
        if (!reg(r, k)) {
            return no(1);
        }
        int number = tryDivide(r, set);
        return number != 0 ? no(number) : lay(k, restOf);
    }

    int quotient(int r, int set, int d, int k) {
        if (!reg(r, k, d)) {
            return no(1);
        }
        if (!in(1, 255, set) || (set >> d & 1) == 0) {
            return no(2);
        }
        int number = tryDivide(r, set);
        return number != 0 ? no(number) : lay(k, quotients[d]);
    }

    int pair(int r, int q, int k) {
        if (!reg(r, q, k) || r == q) {
            return no(1);
        }
        if (registers[r].isEmpty() || registers[q].isEmpty()) {
            return no(5);
        }
        return layMade(k, () -> pairOf(registers[r], registers[q]));
    }

    int complete(int set) {
        if (rule == null) {
            return no(1);
        }
        int number = setTrouble(set);
        if (number != 0) {
            return no(number);
        }
        int free = 0;
        while (free < 8 && !registers[free].isEmpty()) {
            free++;
        }
        if (free == 8) {
            return no(5);
        }
        try {
            List<P> rests = pairRests(set, false);
            if (rests.isEmpty()) {
                return yes(-2);
            }
            lay(free, rests.get(0));
            return yes(free);
        } catch (Full full) {
            return no(3);
        }
    }

    int order(int how, int first, int second) {
        if (rule == null) {
            return no(1);
        }
        if (!isRule(how, first, second)) {
            return no(2);
        }
        Rule next = new Rule(how, first, second);
        keep(new Act(NONE, null, rule));
        boolean already = next.equals(rule);
        rule = next;
        return yes(already ? 0 : 1);
    }

    boolean undo() {
        if (acts.isEmpty()) {
            no(1);
            return false;
        }
        Act act = acts.pop();
        if (act.rule != null) {
            rule = act.rule;
        } else {
            registers[act.register] = act.old;
        }
        yes(0);
        return true;
    }

    // ---- common divisors: rows of polynomials in y, by powers of x

    private static int[] trim(int[] a) {
        int n = a.length;
        while (n > 0 && a[n - 1] == 0) {
            n--;
        }
        return java.util.Arrays.copyOf(a, n);
    }

    private int[] minus(int[] a, int[] b) {
        int[] out = java.util.Arrays.copyOf(a, Math.max(a.length, b.length));
        for (int i = 0; i < b.length; i++) {
            out[i] = Math.floorMod(out[i] - b[i], prime);
        }
        return trim(out);
    }

    private int[] by(int[] a, int[] b) {
        int[] out = new int[Math.max(0, a.length + b.length - 1)];
        for (int i = 0; i < a.length; i++) {
            for (int j = 0; j < b.length; j++) {
                out[i + j] = (out[i + j] + a[i] * b[j]) % prime;
            }
        }
        return trim(out);
    }

    /** Quotient and rest. */
    private int[][] over(int[] a, int[] b) {
        int[] left = a.clone();
        int[] quotient = new int[Math.max(0, a.length - b.length + 1)];
        for (int i = a.length - b.length; i >= 0; i--) {
            quotient[i] = left[i + b.length - 1] * inverse(b[b.length - 1]) % prime;
            for (int j = 0; j < b.length; j++) {
                left[i + j] = Math.floorMod(left[i + j] - quotient[i] * b[j], prime);
            }
        }
        return new int[][] {trim(quotient), trim(left)};
    }

    private int[] gcd(int[] a, int[] b) {
        while (b.length > 0) {
            int[] left = over(a, b)[1];
            a = b;
            b = left;
        }
        return a.length == 0 ? a : by(a, new int[] {inverse(a[a.length - 1])});
    }

    private static int top(int[][] f) {
        int n = f.length;
        while (n > 0 && f[n - 1].length == 0) {
            n--;
        }
        return n - 1;
    }

    private static int[][] rows(P p) {
        int[][] f = new int[16][16];
        p.forEach((e, c) -> f[exponent(e, 0)][exponent(e, 1)] = c);
        for (int i = 0; i < 16; i++) {
            f[i] = trim(f[i]);
        }
        return f;
    }

    private P polynomial(int[][] f) {
        P out = new P();
        for (int i = 0; i < f.length; i++) {
            for (int j = 0; j < f[i].length; j++) {
                if (f[i][j] != 0) {
                    out.put(256 * i + 16 * j, f[i][j]);
                }
            }
        }
        return out;
    }

    private int[] contentRow(int[][] f) {
        int[] all = {};
        for (int[] row : f) {
            all = gcd(all, row);
        }
        return all;
    }

    private int[][] primitiveRows(int[][] f) {
        int[] content = contentRow(f);
        int[][] out = new int[f.length][];
        for (int i = 0; i < f.length; i++) {
            out[i] = f[i].length == 0 ? f[i] : over(f[i], content)[0];
        }
        return out;
    }

    private int[][] primitiveGcd(int[][] a, int[][] b) {
        while (top(b) >= 0) {
            int n = top(b);
            int[][] left = a;
            while (top(left) >= n) {
                int m = top(left);
                int[][] next = new int[16][];
                for (int i = 0; i < 16; i++) {
                    int[] shifted = i - m + n >= 0 ? b[i - m + n] : new int[0];
                    next[i] = minus(by(left[i], b[n]), by(shifted, left[m]));
                }
                left = primitiveRows(next);
            }
            a = b;
            b = left;
        }
        return primitiveRows(a);
    }

    private P commonOf(P a, P b) {
        if (a.isEmpty() || b.isEmpty()) {
            return monicOf(a.isEmpty() ? b : a);
        }
        int[] content = gcd(contentRow(rows(a)), contentRow(rows(b)));
        int[][] all = primitiveGcd(primitiveRows(rows(a)), primitiveRows(rows(b)));
        for (int i = 0; i < 16; i++) {
            all[i] = by(all[i], content);
        }
        return monicOf(polynomial(all));
    }

    private boolean hasZ(P p) {
        return p.keySet().stream().anyMatch(e -> exponent(e, 2) > 0);
    }

    int common(int r, int q, int k) {
        if (!reg(r, q, k)) {
            return no(1);
        }
        if (hasZ(registers[r]) || hasZ(registers[q])) {
            return no(5);
        }
        return layMade(k, () -> commonOf(registers[r], registers[q]));
    }

    int content(int r, int k) {
        if (!reg(r, k)) {
            return no(1);
        }
        if (hasZ(registers[r])) {
            return no(5);
        }
        return layMade(k, () -> polynomial(new int[][] {contentRow(rows(registers[r]))}));
    }

    int primitive(int r, int k) {
        if (!reg(r, k)) {
            return no(1);
        }
        if (hasZ(registers[r])) {
            return no(5);
        }
        return layMade(k, () -> polynomial(primitiveRows(rows(registers[r]))));
    }

    // ---- what is told

    int constant(int i) {
        int seen = 0;
        for (int r = 0; r < 8; r++) {
            if (registers[r].size() == 1 && registers[r].firstKey() == 0) {
                if (seen == i) {
                    return r;
                }
                seen++;
            }
        }
        return NONE;
    }

    int size(int what) {
        int all = 0;
        for (P p : registers) {
            all += p.size();
        }
        return what == 0 ? tape.length() : what == 1 ? acts.size() : what == 2 ? all : NONE;
    }

    int trouble() {
        return trouble;
    }

    // ---- for the tests' own choices, no calls

    boolean isFilled(int r) {
        return !registers[r].isEmpty();
    }

    int primeNow() {
        return prime;
    }
}
