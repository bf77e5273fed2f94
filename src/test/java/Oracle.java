import java.math.BigInteger;
import java.util.ArrayDeque;
import java.util.ArrayList;
import java.util.Arrays;
import java.util.HashSet;
import java.util.List;
import java.util.Set;
import java.util.function.IntSupplier;

/**
 * The document once more, as slow and plain as can be and by other ways than the program's:
 * fractions of BigIntegers, everything tried one by one, whole copies for undo() and on().
 */
final class Oracle {
    static final long[] PRIMES = {
        2, 3, 5, 7, 11, 13, 17, 19, 23, 29, 31, 37, 41, 43, 47, 53, 59, 61, 67, 71, 73, 79, 83, 89, 97};

    /** A QUANTITY, never changed: a change makes a new one. */
    record Quantity(int kind, List<Integer> told, int above, int below) {
        List<Integer> powers() {
            List<Integer> p = new ArrayList<>(told);
            if (kind == 4) {
                return List.of(0, 0, 0, 0, 0);
            }
            if (kind == 1 || kind == 3) {
                p.set(2, p.get(2) - 1);
            }
            if (kind == 3) {
                p.set(1, p.get(1) - 2);
            }
            if (kind == 2 || kind == 5) {
                p.set(1, p.get(1) - 1);
            }
            if (kind == 5) {
                p.replaceAll(v -> 2 * v);
            }
            return p;
        }
    }

    private List<Quantity> quantities = new ArrayList<>();
    private String formula;
    private List<Quantity> imageQuantities;
    private String imageFormula;
    private final ArrayDeque<List<Quantity>> undo = new ArrayDeque<>();
    private final StringBuilder letters = new StringBuilder();
    private final int[][] lists = new int[3][];
    private final int[] refusals = new int[7];

    /** What a call would answer, with no refusal counted. */
    int ask(IntSupplier call) {
        int[] before = refusals.clone();
        int answer = call.getAsInt();
        System.arraycopy(before, 0, refusals, 0, before.length);
        return answer;
    }

    // ---- answers of refusals

    private int no(int code) {
        if (code >= -6) {
            refusals[-code]++;
        }
        return code;
    }

    private int far(int code) {
        return 1000000000 - no(code);
    }

    private long farLong(int code) {
        return 4000000000000000000L - no(code);
    }

    // ---- plain algebra

    private int n() {
        return quantities.size();
    }

    private boolean there(int q) {
        return q >= 0 && q < n();
    }

    private static BigInteger[] fraction(BigInteger above, BigInteger below) {
        BigInteger g = above.gcd(below);
        if (below.signum() < 0) {
            g = g.negate();
        }
        return new BigInteger[] {above.divide(g), below.divide(g)};
    }

    private static BigInteger[] minus(BigInteger[] a, BigInteger[] b) {
        return fraction(a[0].multiply(b[1]).subtract(b[0].multiply(a[1])), a[1].multiply(b[1]));
    }

    private static BigInteger[] times(BigInteger[] a, BigInteger[] b) {
        return fraction(a[0].multiply(b[0]), a[1].multiply(b[1]));
    }

    private static BigInteger[] over(BigInteger[] a, BigInteger[] b) {
        return fraction(a[0].multiply(b[1]), a[1].multiply(b[0]));
    }

    /**
     * The fractions x with dimension(q) plus the sum of x[i] dimension(of[i]) PURE, of of them
     * independent; null if there are none.
     */
    private BigInteger[][] solve(List<Integer> of, int q) {
        int k = of.size();
        BigInteger[][][] m = new BigInteger[5][k + 1][];
        for (int u = 0; u < 5; u++) {
            for (int i = 0; i <= k; i++) {
                int v = i < k ? quantities.get(of.get(i)).powers().get(u) : -quantities.get(q).powers().get(u);
                m[u][i] = new BigInteger[] {BigInteger.valueOf(v), BigInteger.ONE};
            }
        }
        int row = 0;
        for (int i = 0; i < k; i++) {
            int found = -1;
            for (int u = row; u < 5 && found < 0; u++) {
                if (m[u][i][0].signum() != 0) {
                    found = u;
                }
            }
            if (found < 0) {
                throw new IllegalStateException("not independent");
            }
            BigInteger[][] swap = m[found];
            m[found] = m[row];
            m[row] = swap;
            BigInteger[] lead = m[row][i];
            for (int j = 0; j <= k; j++) {
                m[row][j] = over(m[row][j], lead);
            }
            for (int u = 0; u < 5; u++) {
                BigInteger[] f = m[u][i];
                for (int j = 0; j <= k && u != row; j++) {
                    m[u][j] = minus(m[u][j], times(f, m[row][j]));
                }
            }
            row++;
        }
        for (int u = row; u < 5; u++) {
            if (m[u][k][0].signum() != 0) {
                return null;
            }
        }
        BigInteger[][] x = new BigInteger[k][];
        for (int i = 0; i < k; i++) {
            x[i] = m[i][k];
        }
        return x;
    }

    /** The PURE PRODUCT of q and of, in least whole powers, q's above 0; null if there is none. */
    private long[] whole(List<Integer> of, int q) {
        BigInteger[][] x = solve(of, q);
        if (x == null) {
            return null;
        }
        BigInteger common = BigInteger.ONE;
        for (BigInteger[] f : x) {
            common = common.multiply(f[1]).divide(common.gcd(f[1]));
        }
        long[] powers = new long[n()];
        powers[q] = common.longValueExact();
        for (int i = 0; i < x.length; i++) {
            powers[of.get(i)] = x[i][0].multiply(common).divide(x[i][1]).longValueExact();
        }
        BigInteger g = BigInteger.ZERO;
        for (long p : powers) {
            g = g.gcd(BigInteger.valueOf(p));
        }
        for (int i = 0; i < powers.length; i++) {
            powers[i] /= g.longValueExact();
        }
        return powers;
    }

    private List<Integer> firm() {
        List<Integer> firm = new ArrayList<>();
        for (int q = 0; q < n(); q++) {
            if (solve(firm, q) == null) {
                firm.add(q);
            }
        }
        return firm;
    }

    private List<Integer> loose() {
        List<Integer> loose = new ArrayList<>();
        for (int q = 0; q < n(); q++) {
            loose.add(q);
        }
        loose.removeAll(firm());
        return loose;
    }

    private long[] groupPowers(int i) {
        int q = loose().get(i);
        List<Integer> lesser = new ArrayList<>(firm());
        lesser.removeIf(p -> p > q);
        return whole(lesser, q);
    }

    private boolean isGroup(int i) {
        return i >= 0 && i < loose().size();
    }

    private int[] dimensionOf(int[] product) {
        int[] sum = new int[5];
        for (int q = 0; q < n(); q++) {
            for (int u = 0; u < 5; u++) {
                sum[u] += product[q] * quantities.get(q).powers().get(u);
            }
        }
        return sum;
    }

    private boolean isPure(int[] product) {
        return Arrays.equals(dimensionOf(product), new int[5]);
    }

    private List<Integer> members(int set) {
        List<Integer> in = new ArrayList<>();
        for (int q = 0; q < n(); q++) {
            if ((set >> q & 1) == 1) {
                in.add(q);
            }
        }
        return in;
    }

    private boolean isSet(int set) {
        return set >= 0 && set < Math.pow(2, n());
    }

    private boolean mayBeChosen(int set) {
        List<Integer> in = members(set);
        if (in.size() != firm().size()) {
            return false;
        }
        for (int i = 0; i < in.size(); i++) {
            if (solve(in.subList(0, i), in.get(i)) != null) {
                return false;
            }
        }
        return true;
    }

    private boolean isOutside(int set, int q) {
        return isSet(set) && there(q) && !members(set).contains(q);
    }

    private long sizesOf(int set) {
        long sum = 0;
        for (int q = 0; q < n(); q++) {
            if (!members(set).contains(q)) {
                for (long p : whole(members(set), q)) {
                    sum += Math.abs(p);
                }
            }
        }
        return sum;
    }

    // ---- quantities

    int letter(int c) {
        if (c < 0) {
            return no(-4);
        }
        if (c > 255 || letters.length() == 72) {
            return no(-6);
        }
        letters.append((char) c);
        return letters.length();
    }

    int quantity(int kind) {
        if (kind < 0 || kind > 5) {
            return no(-2);
        }
        if (n() == 8) {
            return no(-6);
        }
        quantities.add(new Quantity(kind, List.of(0, 0, 0, 0, 0), 0, 1));
        undo.clear();
        return n() - 1;
    }

    private void change(int q, Quantity to) {
        undo.addLast(new ArrayList<>(quantities));
        if (undo.size() > 20) {
            undo.removeFirst();
        }
        quantities.set(q, to);
    }

    int tell(int q, int unit, int v) {
        if (!there(q) || unit < 0 || unit > 4) {
            return far(-1);
        }
        if (v < -9) {
            return far(-4);
        }
        if (v > 9) {
            return far(-6);
        }
        Quantity was = quantities.get(q);
        List<Integer> told = new ArrayList<>(was.told);
        told.set(unit, v);
        change(q, new Quantity(was.kind, told, was.above, was.below));
        return was.told.get(unit);
    }

    int turn(int q, int kind) {
        if (!there(q)) {
            return no(-1);
        }
        if (kind < 0 || kind > 5) {
            return no(-2);
        }
        Quantity was = quantities.get(q);
        change(q, new Quantity(kind, was.told, was.above, was.below));
        return was.kind;
    }

    int of(int q, int what) {
        if (!there(q)) {
            return far(-1);
        }
        switch (what) {
            case 0: return quantities.get(q).kind;
            case 1: return loose().contains(q) ? 1 : 0;
            case 2: return quantities.get(q).powers().equals(List.of(0, 0, 0, 0, 0)) ? 1 : 0;
            case 10: case 11: case 12: case 13: case 14: return quantities.get(q).told.get(what - 10);
            case 20: case 21: case 22: case 23: case 24: return quantities.get(q).powers().get(what - 20);
            default: return far(-2);
        }
    }

    int twin(int q) {
        if (!there(q)) {
            return no(-1);
        }
        for (int p = 0; p < n(); p++) {
            if (p != q && quantities.get(p).powers().equals(quantities.get(q).powers())) {
                return p;
            }
        }
        return -9;
    }

    int taken(int q, int kind) {
        if (!there(q)) {
            return no(-1);
        }
        if (kind < 0 || kind > 5) {
            return no(-2);
        }
        String[] lines = {"0", "1 0", "2 0", "3 1 0", "4 0", "5 2 0"};
        int is = quantities.get(q).kind;
        return lines[is].contains("" + kind) ? is : -16;
    }

    // ---- groups

    int rank(int what) {
        switch (what) {
            case 0: return firm().size();
            case 1: return loose().size();
            case 2: return loose().stream().mapToInt(q -> 1 << q).sum();
            case 3: return (int) quantities.stream().map(Quantity::powers).distinct().count();
            default: return no(-2);
        }
    }

    int group(int i, int q) {
        return isGroup(i) && there(q) ? (int) groupPowers(i)[q] : far(-1);
    }

    /** The first numbers of a LIST; null if one may not be. */
    private int[] numbers(int list, int wanted) {
        int[] first = Arrays.copyOf(lists[list], wanted);
        for (int v : first) {
            if (Math.abs((long) v) > 99) {
                return null;
            }
        }
        return first;
    }

    private static boolean isList(int list) {
        return list >= 0 && list <= 2;
    }

    int pure(int list) {
        if (!isList(list)) {
            return no(-1);
        }
        if (lists[list] == null) {
            return -11;
        }
        int[] product = numbers(list, n());
        return product == null ? no(-3) : isPure(product) ? 1 : 0;
    }

    private static long part(BigInteger above, BigInteger below, int part) {
        return fraction(above, below)[part].longValueExact();
    }

    private static long part(long above, long below, int part) {
        return part(BigInteger.valueOf(above), BigInteger.valueOf(below), part);
    }

    long cover(int list, int i, int part) {
        if (!isList(list) || !isGroup(i)) {
            return farLong(-1);
        }
        if (part != 0 && part != 1) {
            return farLong(-2);
        }
        if (lists[list] == null) {
            return 4000000000000000011L;
        }
        int[] product = numbers(list, n());
        if (product == null || !isPure(product)) {
            return farLong(-3);
        }
        // Checked against the words: all GROUPS with these powers must give the PRODUCT.
        BigInteger[][] left = new BigInteger[n()][];
        for (int q = 0; q < n(); q++) {
            left[q] = new BigInteger[] {BigInteger.valueOf(product[q]), BigInteger.ONE};
        }
        BigInteger[] answer = null;
        for (int g = 0; g < loose().size(); g++) {
            long[] powers = groupPowers(g);
            BigInteger[] power = fraction(BigInteger.valueOf(product[loose().get(g)]),
                BigInteger.valueOf(powers[loose().get(g)]));
            for (int q = 0; q < n(); q++) {
                left[q] = minus(left[q], times(power, new BigInteger[] {BigInteger.valueOf(powers[q]), BigInteger.ONE}));
            }
            answer = g == i ? power : answer;
        }
        for (BigInteger[] l : left) {
            if (l[0].signum() != 0) {
                throw new IllegalStateException("not covered");
            }
        }
        return answer[part].longValueExact();
    }

    int box() {
        int all = (int) Math.round(Math.pow(3, n()));
        int count = 0;
        for (int code = 0; code < all; code++) {
            int[] product = new int[n()];
            int left = code;
            for (int q = 0; q < n(); q++) {
                product[q] = left % 3 - 1;
                left /= 3;
            }
            count += isPure(product) ? 1 : 0;
        }
        return count;
    }

    private List<Quantity> leastFor;
    private int[] leastFound;

    /** Goes through all products in their order, keeps the first of the least SIZE. */
    private void leastFrom(int[] product, int[] sum, int q, int size) {
        if (q == n()) {
            if (size > 0 && Arrays.equals(sum, new int[5]) && (leastFound == null || size < sizeOf(leastFound))) {
                leastFound = product.clone();
            }
            return;
        }
        List<Integer> powers = quantities.get(q).powers();
        for (int p = size - 6; p <= 6 - size; p++) {
            int[] next = sum.clone();
            for (int u = 0; u < 5; u++) {
                next[u] += p * powers.get(u);
            }
            product[q] = p;
            leastFrom(product, next, q + 1, size + Math.abs(p));
        }
        product[q] = 0;
    }

    private static int sizeOf(int[] product) {
        return Arrays.stream(product).map(Math::abs).sum();
    }

    int least(int q) {
        if (q != -1 && !there(q)) {
            return far(-1);
        }
        if (!quantities.equals(leastFor)) {
            leastFor = new ArrayList<>(quantities);
            leastFound = null;
            leastFrom(new int[n()], new int[5], 0, 0);
        }
        if (leastFound == null) {
            return 0;
        }
        return q == -1 ? sizeOf(leastFound) : leastFound[q];
    }

    int may(int set) {
        return !isSet(set) ? no(-1) : mayBeChosen(set) ? 1 : 0;
    }

    int rest(int set, int q, int p) {
        if (!isOutside(set, q) || !there(p)) {
            return far(-1);
        }
        return mayBeChosen(set) ? (int) whole(members(set), q)[p] : far(-3);
    }

    private List<Quantity> choosableFor;
    private List<Integer> choosableFound;

    private List<Integer> choosable() {
        if (!quantities.equals(choosableFor)) {
            choosableFor = new ArrayList<>(quantities);
            choosableFound = new ArrayList<>();
            for (int set = 0; isSet(set); set++) {
                if (mayBeChosen(set)) {
                    choosableFound.add(set);
                }
            }
        }
        return choosableFound;
    }

    int sets(int what) {
        if (what < 0 || what > 2) {
            return no(-2);
        }
        List<Integer> all = choosable();
        if (what == 0) {
            return all.size();
        }
        if (what == 1) {
            return all.get(0);
        }
        int best = all.get(0);
        for (int set : all) {
            if (sizesOf(set) < sizesOf(best)) {
                best = set;
            }
        }
        return best;
    }

    long sizes(int set) {
        if (!isSet(set)) {
            return farLong(-1);
        }
        return mayBeChosen(set) ? sizesOf(set) : farLong(-3);
    }

    long odds(int part) {
        if (part != 0 && part != 1) {
            return farLong(-2);
        }
        long all = 1;
        for (int i = 0; i < firm().size(); i++) {
            all = all * (n() - i) / (i + 1);
        }
        return part(choosable().size(), all, part);
    }

    // ---- scales

    int scale(int q, int above, int below) {
        if (!there(q)) {
            return no(-1);
        }
        Quantity was = quantities.get(q);
        if (above == 0) {
            change(q, new Quantity(was.kind, was.told, 0, 1));
            return 1;
        }
        if (above < 0 || below < 1) {
            return no(-4);
        }
        if (above > 99 || below > 99) {
            return no(-6);
        }
        change(q, new Quantity(was.kind, was.told, above, below));
        return 1;
    }

    private boolean scaledOne(int q) {
        return quantities.get(q).above > 0;
    }

    int scaled(int q, int part) {
        if (!there(q)) {
            return no(-1);
        }
        if (part != 0 && part != 1) {
            return no(-2);
        }
        return scaledOne(q) ? (int) part(quantities.get(q).above, quantities.get(q).below, part) : -9;
    }

    private static int often(long prime, int number) {
        return number % prime == 0 ? 1 + often(prime, (int) (number / prime)) : 0;
    }

    private int primePower(int q, long prime) {
        return often(prime, quantities.get(q).above) - often(prime, quantities.get(q).below);
    }

    int alike() {
        for (int i = 0; i < loose().size(); i++) {
            long[] powers = groupPowers(i);
            boolean all = true;
            for (int q = 0; q < n(); q++) {
                all &= powers[q] == 0 || scaledOne(q);
            }
            for (long prime : PRIMES) {
                long sum = 0;
                for (int q = 0; q < n() && all; q++) {
                    sum += powers[q] == 0 ? 0 : powers[q] * primePower(q, prime);
                }
                if (sum != 0) {
                    return i;
                }
            }
        }
        return -9;
    }

    private BigInteger[] mustBe(int set, int q, long prime) {
        long[] powers = whole(members(set), q);
        BigInteger sum = BigInteger.ZERO;
        for (int p : members(set)) {
            sum = sum.subtract(BigInteger.valueOf(powers[p] * primePower(p, prime)));
        }
        return fraction(sum, BigInteger.valueOf(powers[q]));
    }

    private boolean scaledSet(int set) {
        return members(set).stream().allMatch(this::scaledOne);
    }

    long must(int set, int q, int prime, int part) {
        if (!isOutside(set, q)) {
            return farLong(-1);
        }
        if (Arrays.stream(PRIMES).noneMatch(p -> p == prime) || part != 0 && part != 1) {
            return farLong(-2);
        }
        if (!mayBeChosen(set) || !scaledSet(set)) {
            return farLong(-3);
        }
        return mustBe(set, q, prime)[part].longValueExact();
    }

    int whole(int set, int q) {
        if (!isOutside(set, q)) {
            return no(-1);
        }
        if (!mayBeChosen(set) || !scaledSet(set)) {
            return no(-3);
        }
        for (long prime : PRIMES) {
            if (!mustBe(set, q, prime)[1].equals(BigInteger.ONE)) {
                return 0;
            }
        }
        return 1;
    }

    int off(int set) {
        if (!isSet(set)) {
            return no(-1);
        }
        if (!mayBeChosen(set) || !scaledSet(set)) {
            return no(-3);
        }
        int off = 0;
        for (int q = 0; q < n(); q++) {
            if (!members(set).contains(q) && scaledOne(q)) {
                for (long prime : PRIMES) {
                    BigInteger[] due = mustBe(set, q, prime);
                    if (!due[1].equals(BigInteger.ONE) || due[0].longValueExact() != primePower(q, prime)) {
                        off |= 1 << q;
                    }
                }
            }
        }
        return off;
    }

    // ---- factors, formulas

    private List<Integer> factor(int f) {
        List<Integer> p = new ArrayList<>(quantities.get(f / 2).powers());
        if (f % 2 == 1) {
            p.replaceAll(v -> -v);
        }
        return p;
    }

    /** All rows of so many FACTORS in their order. */
    private List<int[]> rows(int length) {
        List<int[]> rows = new ArrayList<>();
        int all = (int) Math.round(Math.pow(2 * n(), length));
        for (int code = 0; code < all; code++) {
            int[] row = new int[length];
            int left = code;
            for (int i = length - 1; i >= 0; i--) {
                row[i] = left % (2 * n());
                left /= 2 * n();
            }
            rows.add(row);
        }
        return rows;
    }

    private List<Integer> dimensionOfRow(int[] row) {
        int[] sum = new int[5];
        for (int f : row) {
            for (int u = 0; u < 5; u++) {
                sum[u] += factor(f).get(u);
            }
        }
        return List.of(sum[0], sum[1], sum[2], sum[3], sum[4]);
    }

    private int fewestFor(List<Integer> dimension, int i) {
        for (int length = 0; length <= 3; length++) {
            for (int[] row : rows(length)) {
                if (dimensionOfRow(row).equals(dimension)) {
                    return i == -1 ? length : i < length ? row[i] : -9;
                }
            }
        }
        return -9;
    }

    int fewest(int list, int i) {
        if (!isList(list)) {
            return no(-1);
        }
        if (lists[list] == null) {
            return -11;
        }
        int[] d = numbers(list, 5);
        if (d == null) {
            return no(-3);
        }
        return i < -1 ? no(-4) : fewestFor(List.of(d[0], d[1], d[2], d[3], d[4]), i);
    }

    int had(int n) {
        if (n < 0) {
            return no(-4);
        }
        if (n > 3) {
            return no(-6);
        }
        Set<List<Integer>> had = new HashSet<>();
        for (int length = 0; length <= n; length++) {
            for (int[] row : rows(length)) {
                had.add(dimensionOfRow(row));
            }
        }
        return had.size();
    }

    /** A machine that takes one letter after the other: the place it cannot take, or -9. */
    private int faultIn(String text) {
        String state = "atom";
        int open = 0;
        boolean equals = false;
        int digits = 0;
        for (int i = 0; i < text.length(); i++) {
            char c = text.charAt(i);
            boolean digit = c >= '0' && c <= '9';
            switch (state) {
                case "atom":
                    if (c >= 'A' && c < 'A' + n()) {
                        state = "part";
                    } else if (digit) {
                        state = "number";
                        digits = 1;
                    } else if (c == '(' && open < 6) {
                        open++;
                    } else if (c == 's' && open < 6) {
                        state = "s";
                    } else {
                        return i;
                    }
                    break;
                case "s":
                    if (c != '(') {
                        return i;
                    }
                    open++;
                    state = "atom";
                    break;
                case "power": case "minus":
                    if (digit) {
                        state = "end";
                    } else if (c == '-' && state.equals("power")) {
                        state = "minus";
                    } else {
                        return i;
                    }
                    break;
                default: // number, part, end
                    if (digit && state.equals("number") && digits < 3) {
                        digits++;
                    } else if (c == '^' && !state.equals("end")) {
                        state = "power";
                    } else if (c == '+' || c == '-' || c == '*' || c == '/') {
                        state = "atom";
                    } else if (c == ')' && open > 0) {
                        open--;
                        state = "part";
                    } else if (c == '=' && open == 0 && !equals) {
                        equals = true;
                        state = "atom";
                    } else {
                        return i;
                    }
            }
        }
        boolean whole = equals && open == 0 && List.of("number", "part", "end").contains(state);
        return whole ? -9 : text.length();
    }

    int formula() {
        String text = letters.toString();
        letters.setLength(0);
        int fault = faultIn(text);
        if (fault != -9) {
            return -1000 - fault;
        }
        formula = text;
        return terms();
    }

    /** The places in a text, outside of all ( in it, of one of some signs; a power's - is none. */
    private static List<Integer> places(String text, String signs) {
        List<Integer> places = new ArrayList<>();
        int open = 0;
        for (int i = 0; i < text.length(); i++) {
            char c = text.charAt(i);
            open += c == '(' ? 1 : c == ')' ? -1 : 0;
            if (open == 0 && signs.indexOf(c) >= 0 && !(i > 0 && text.charAt(i - 1) == '^')) {
                places.add(i);
            }
        }
        return places;
    }

    private final Set<Integer> wrongPlaces = new HashSet<>();
    private int termCount;

    private int[] sumOf(String text, int at) {
        List<Integer> cuts = places(text, "+-");
        cuts.add(text.length());
        int[] first = null;
        int from = 0;
        for (int cut : cuts) {
            int[] term = termOf(text.substring(from, cut), at + from);
            if (first == null) {
                first = term;
            } else if (!Arrays.equals(first, term)) {
                wrongPlaces.add(at + from);
            }
            from = cut + 1;
        }
        return first;
    }

    private int[] termOf(String text, int at) {
        termCount++;
        List<Integer> cuts = places(text, "*/");
        cuts.add(text.length());
        int[] product = new int[5];
        int from = 0;
        for (int cut : cuts) {
            int[] part = partOf(text.substring(from, cut), at + from);
            for (int u = 0; u < 5; u++) {
                product[u] += from > 0 && text.charAt(from - 1) == '/' ? -part[u] : part[u];
            }
            from = cut + 1;
        }
        return product;
    }

    private int[] partOf(String text, int at) {
        List<Integer> hats = places(text, "^");
        if (hats.isEmpty()) {
            return atomOf(text, at);
        }
        int power = Integer.parseInt(text.substring(hats.get(0) + 1));
        int[] atom = atomOf(text.substring(0, hats.get(0)), at).clone();
        for (int u = 0; u < 5; u++) {
            atom[u] *= power;
        }
        return atom;
    }

    private int[] atomOf(String text, int at) {
        char c = text.charAt(0);
        if (c == '(') {
            return sumOf(text.substring(1, text.length() - 1), at + 1);
        }
        if (c == 's') {
            if (!Arrays.equals(sumOf(text.substring(2, text.length() - 1), at + 2), new int[5])) {
                wrongPlaces.add(at);
            }
            return new int[5];
        }
        if (c >= 'A') {
            return quantities.get(c - 'A').powers().stream().mapToInt(v -> v).toArray();
        }
        return new int[5];
    }

    /** The DIMENSIONS ahead of the = and behind it, what LACKS. */
    private int[][] judged() {
        wrongPlaces.clear();
        termCount = 0;
        int equals = formula.indexOf('=');
        int[] ahead = sumOf(formula.substring(0, equals), 0);
        int[] behind = sumOf(formula.substring(equals + 1), equals + 1);
        int[] lacks = new int[5];
        for (int u = 0; u < 5; u++) {
            lacks[u] = ahead[u] - behind[u];
        }
        if (!Arrays.equals(ahead, behind)) {
            wrongPlaces.add(equals);
        }
        return new int[][] {ahead, behind, lacks};
    }

    private int terms() {
        judged();
        return termCount;
    }

    int wrong(int what) {
        if (what < 0 || what > 2) {
            return no(-2);
        }
        if (formula == null) {
            return no(-3);
        }
        judged();
        if (what == 0) {
            return wrongPlaces.stream().mapToInt(v -> v).min().orElse(-9);
        }
        if (what == 1) {
            return wrongPlaces.size();
        }
        int stand = 0;
        for (int q = 0; q < 8; q++) {
            stand |= formula.indexOf('A' + q) >= 0 ? 1 << q : 0;
        }
        return stand;
    }

    int sides(int side, int unit) {
        if (unit < 0 || unit > 4) {
            return far(-1);
        }
        if (side < 0 || side > 2) {
            return far(-2);
        }
        return formula == null ? far(-3) : judged()[side][unit];
    }

    int mend(int i) {
        if (i < -1) {
            return no(-4);
        }
        if (formula == null) {
            return no(-3);
        }
        int[] d = judged()[2];
        return fewestFor(List.of(d[0], d[1], d[2], d[3], d[4]), i);
    }

    int lots(int n, int z, int what) {
        if (n < 1) {
            return no(-4);
        }
        if (n > 50) {
            return no(-6);
        }
        if (what < 0 || what > 1) {
            return no(-2);
        }
        long seed = z & 0xffffffffL;
        int pure = 0;
        int together = 0;
        for (int i = 0; i < n; i++) {
            int[] product = new int[n()];
            for (int q = 0; q < n(); q++) {
                seed = (seed * 1664525L + 1013904223L) % 4294967296L;
                product[q] = (int) (seed % 2147483648L / 256 % 5) - 2;
            }
            pure += isPure(product) ? 1 : 0;
            together += sizeOf(dimensionOf(product));
        }
        return what == 0 ? pure : together;
    }

    // ---- lists of numbers

    int list(int list, int n) {
        if (!isList(list)) {
            return no(-1);
        }
        if (n > 40) {
            return no(-6);
        }
        if (n < 0) {
            return -14;
        }
        lists[list] = new int[n];
        return 1;
    }

    int put(int list, int i, int v) {
        if (!isList(list)) {
            return no(-1);
        }
        if (lists[list] == null) {
            return -11;
        }
        if (i < 0 || i >= lists[list].length) {
            return -13;
        }
        lists[list][i] = v;
        return 1;
    }

    int look(int list, int i) {
        if (!isList(list)) {
            return far(-1);
        }
        if (lists[list] == null) {
            return 1000000011;
        }
        return i < 0 || i >= lists[list].length ? 1000000013 : lists[list][i];
    }

    int lays(int list, int i, int group) {
        if (!isList(list) || !isGroup(group)) {
            return no(-1);
        }
        if (lists[list] == null) {
            return -11;
        }
        if (i < 0 || (long) i + n() > lists[list].length) {
            return -13;
        }
        for (int q = 0; q < n(); q++) {
            lists[list][i + q] = (int) groupPowers(group)[q];
        }
        return n();
    }

    int judge(int list) {
        if (!isList(list)) {
            return no(-1);
        }
        if (lists[list] == null) {
            return -11;
        }
        List<Integer> due = new ArrayList<>();
        quantities.forEach(q -> due.addAll(q.powers()));
        for (int i = 0; i < lists[list].length; i++) {
            if (i >= due.size() || due.get(i) != lists[list][i]) {
                return i;
            }
        }
        return -9;
    }

    // ---- the image, what is told

    int undo() {
        if (undo.isEmpty()) {
            return no(-3);
        }
        quantities = undo.removeLast();
        return undo.size();
    }

    int image() {
        imageQuantities = new ArrayList<>(quantities);
        imageFormula = formula;
        return n();
    }

    int on() {
        if (imageQuantities == null) {
            return no(-3);
        }
        quantities = new ArrayList<>(imageQuantities);
        formula = imageFormula;
        undo.clear();
        return n();
    }

    int count(int what) {
        switch (what) {
            case 0: return n();
            case 1: return letters.length();
            case 2: {
                int set = 0;
                for (int q = 0; q < n(); q++) {
                    set |= scaledOne(q) ? 1 << q : 0;
                }
                return set;
            }
            case 3: return formula == null ? -9 : terms();
            case 4: return undo.size();
            case 11: case 12: case 13: case 14: case 15: case 16: return refusals[what - 10];
            default: return -9;
        }
    }
}
