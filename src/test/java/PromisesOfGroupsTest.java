/** Promises 9 to 19, sentence by sentence. */
public final class PromisesOfGroupsTest {
    private static final Sentences S = new Sentences("PromisesOfGroupsTest");
    private static final long FAR_LONG = 4000000000000000000L;
    private static final int MIN = Integer.MIN_VALUE;
    private static final int MAX = Integer.MAX_VALUE;

    private static void due(String call, long got, long want) {
        S.due(call, got, want);
    }

    public static void main(String[] args) {
        rank();
        group();
        pure();
        pureRefused();
        cover();
        coverRefused();
        box();
        least();
        may();
        rest();
        restRefused();
        sets();
        sizes();
        odds();
        S.finish("Promise 9", "Promise 10", "Promise 11", "Promise 12", "Promise 13", "Promise 14", "Promise 15", "Promise 16",
            "Promise 17", "Promise 18", "Promise 19");
    }

    /** A speed, a length, a time, a frequency, a mass, an angle: GROUPS C A / B, D B / A, F. */
    private static PureGroups wave() {
        PureGroups x = new PureGroups();
        Check.quantity(x, 1, 0, 1);
        Check.quantity(x, 0, 0, 1);
        Check.quantity(x, 0, 0, 0, 1);
        Check.quantity(x, 1);
        Check.quantity(x, 0, 1);
        x.quantity(4);
        return x;
    }

    private static void rank() {
        S.says("Promise 9", "0 RANK, 1 how many GROUPS, 2 LOOSE ones (bits), 3 how many different DIMENSIONS QUANTITIES have.");
        PureGroups x = wave();
        due("rank(0)", x.rank(0), 3);
        due("rank(1)", x.rank(1), 3);
        due("rank(2)", x.rank(2), 4 + 8 + 32);
        due("rank(3)", x.rank(3), 6);
        x.turn(3, 4);
        due("two PURE ones are alike", x.rank(3), 5);
        due("as now", x.rank(1), 3);
        Check.quantity(x, 0, 0, 1);
        due("alike B", x.rank(3), 5);
        due("LOOSE, the seventh", x.rank(2), 4 + 8 + 32 + 64);
        Check.quantity(x, 0, 0, -1);
        due("the eighth", x.rank(3), 6);
        due("the eighth is LOOSE", x.rank(2), 4 + 8 + 32 + 64 + 128);
        due("of eight", x.rank(0) + 10 * x.rank(1), 53);
        PureGroups none = new PureGroups();
        due("of none", none.rank(0) + none.rank(1) + none.rank(2) + none.rank(3), 0);
        PureGroups eight = new PureGroups();
        for (int q = 0; q < 8; q++) {
            Check.quantity(eight, 0, q - 4);
        }
        due("eight different", eight.rank(3), 8);
        due("all LOOSE but the first (-4 is FIRM)", eight.rank(2), 254);
        S.says("Promise 9", "-2.");
        int[] whats = {-1, 4, MIN, MAX};
        for (int what : whats) {
            due("rank(" + what + ")", x.rank(what), -2);
        }
        due("OTHER", x.count(12), 4);
    }

    private static void group() {
        S.says("Promise 10", "The power of a QUANTITY in a GROUP.");
        PureGroups x = wave();
        int[][] due = {{1, -1, 1, 0, 0, 0}, {-1, 1, 0, 1, 0, 0}, {0, 0, 0, 0, 0, 1}};
        for (int i = 0; i < 3; i++) {
            for (int q = 0; q < 6; q++) {
                due("group(" + i + ", " + q + ")", x.group(i, q), due[i][q]);
            }
        }
        x.quantity(3);
        due("a QUANTITY more", x.group(2, 6), 0);
        S.says("Promise 10", "Refused far: -1 either.");
        due("GROUP 4 of four", x.group(4, 0), 1000000001);
        due("GROUP 3 of four", x.group(3, 6), 1);
        due("QUANTITY 7 of seven", x.group(0, 7), 1000000001);
        int[] numbers = {-1, 8, MIN, MAX};
        for (int n : numbers) {
            due("group(" + n + ", 0)", x.group(n, 0), 1000000001);
            due("group(0, " + n + ")", x.group(0, n), 1000000001);
        }
        due("NOBODY", x.count(11), 10);
    }

    private static void pure() {
        S.says("Promise 11", "Whether a LIST tells a PURE PRODUCT (1, 0).");
        PureGroups x = wave();
        for (int list = 0; list < 3; list++) {
            Check.list(x, list, 1, -1, 1, 0, 0, 9);
            due("pure(" + list + ")", x.pure(list), 1);
            x.put(list, 4, 1);
            due("pure(" + list + "), a mass", x.pure(list), 0);
        }
        Check.list(x, 0, 99, -99, 99, 0, 0, -99);
        due("99", x.pure(0), 1);
        Check.list(x, 0, 99, -99, 98, 0, 0, -99);
        due("98 of one", x.pure(0), 0);
        x.list(0, 0);
        due("all 0", x.pure(0), 1);
    }

    private static void pureRefused() {
        S.says("Promise 11", "-1; -11; -3 a number that may not be.");
        PureGroups x = wave();
        due("pure(3)", x.pure(3), -1);
        due("pure(-1)", x.pure(-1), -1);
        due("pure(2)", x.pure(2), -11);
        int[] far = {100, -100, MIN, MAX};
        for (int v : far) {
            for (int i = 0; i < 7; i++) {
                Check.list(x, 2, 0, 0, 0, 0, 0, 0, 0);
                x.put(2, i, v);
                due(v + " at " + i, x.pure(2), i < 6 ? -3 : 1);
            }
        }
        due("NOBODY", x.count(11), 2);
        due("STATE", x.count(13), 24);
    }

    private static void cover() {
        S.says("Promise 12", "COVER: of the PURE PRODUCT that a LIST tells the power of a GROUP: part 0 above, 1 below the line.");
        PureGroups x = wave();
        Check.list(x, 1, 5, -5, 2, -3, 0, -7);
        int[] due = {2, -3, -7};
        due("PURE", x.pure(1), 1);
        for (int i = 0; i < 3; i++) {
            due("cover(1, " + i + ", 0)", x.cover(1, i, 0), due[i]);
            due("cover(1, " + i + ", 1)", x.cover(1, i, 1), 1);
        }
        PureGroups thirds = new PureGroups();
        Check.quantity(thirds, 0, 3);
        Check.quantity(thirds, 0, 1);
        Check.quantity(thirds, 0, 2);
        Check.list(thirds, 0, 1, -5, 1);
        due("-5 / 3", thirds.cover(0, 0, 0), -5);
        due("-5 / 3", thirds.cover(0, 0, 1), 3);
        due("1 / 3", thirds.cover(0, 1, 0), 1);
        due("1 / 3", thirds.cover(0, 1, 1), 3);
        Check.list(thirds, 0, -3, 9, 0);
        due("9 / 3", thirds.cover(0, 0, 0), 3);
        due("9 / 3", thirds.cover(0, 0, 1), 1);
        due("0", thirds.cover(0, 1, 0), 0);
        due("0 by 1", thirds.cover(0, 1, 1), 1);
    }

    private static void coverRefused() {
        S.says("Promise 12", "Refused far: -1 either; -2; -11; -3 a number that may not be, it is not PURE.");
        PureGroups x = wave();
        due("no such LIST", x.cover(3, 0, 0), FAR_LONG + 1);
        due("no such LIST, GROUP, part", x.cover(-1, 3, 2), FAR_LONG + 1);
        due("no such GROUP", x.cover(0, 3, 0), FAR_LONG + 1);
        due("no such GROUP, part", x.cover(0, -1, 2), FAR_LONG + 1);
        due("no such part", x.cover(0, 2, 2), FAR_LONG + 2);
        due("no such part", x.cover(0, 2, -1), FAR_LONG + 2);
        due("missing", x.cover(0, 2, 1), FAR_LONG + 11);
        Check.list(x, 0, 100, -100, 100);
        due("100", x.cover(0, 2, 1), FAR_LONG + 3);
        due("100, no such part", x.cover(0, 2, 3), FAR_LONG + 2);
        Check.list(x, 0, 1, -1);
        due("not PURE", x.cover(0, 2, 1), FAR_LONG + 3);
        due("not PURE, no such GROUP", x.cover(0, 4, 1), FAR_LONG + 1);
        Check.list(x, 0, 0, 0, 0, 0, 0, 0, 100);
        due("behind", x.cover(0, 2, 1), 1);
        due("NOBODY", x.count(11), 5);
        due("OTHER", x.count(12), 3);
        due("STATE", x.count(13), 2);
        due("no GROUPS", new PureGroups().cover(0, 0, 0), FAR_LONG + 1);
    }

    private static void box() {
        S.says("Promise 13", "BOX.");
        due("of none", new PureGroups().box(), 1);
        // Of A, B, C, D the powers are a, -a, c, d with c - d = a: 3 with a 0, 2 with a 1, 2 with a -1; any of F.
        PureGroups x = wave();
        due("A .. D, F", x.box(), 7 * 3);
        x.turn(5, 1);
        // F is alike D: c - d - f = a: 7 with a 0, 6 with a 1, 6 with a -1.
        due("F alike D", x.box(), 7 + 6 + 6);
        x.tell(5, 1, 1);
        // F is alike A: b = -a - f, c - d = a + f: 3 times 3 with a + f 0, 2 times 2 with 1, as often with -1.
        due("F alike A", x.box(), 9 + 4 + 4);
    }

    private static void least() {
        S.says("Promise 14", "LEAST: its SIZE (q -1; 0: there is none), the power of a QUANTITY (0: there is none).");
        PureGroups x = wave();
        due("F", x.least(-1), 1);
        for (int q = 0; q < 6; q++) {
            due("least(" + q + ")", x.least(q), q == 5 ? -1 : 0);
        }
        x.tell(5, 0, 1);
        x.turn(5, 2);
        // F is a mass by a length now: C D is shorter.
        int[] due = {0, 0, -1, -1, 0, 0};
        due("C D", x.least(-1), 2);
        for (int q = 0; q < 6; q++) {
            due("least(" + q + ")", x.least(q), due[q]);
        }
        x.turn(3, 2);
        // D by a length: B D.
        due("B D", x.least(-1), 2);
        due("B", x.least(1), -1);
        due("D", x.least(3), -1);
        PureGroups none = new PureGroups();
        due("of none", none.least(-1), 0);
        Check.quantity(none, 0, 7);
        Check.quantity(none, 0, 1);
        due("SIZE 8", none.least(-1), 0);
        due("SIZE 8", none.least(0), 0);
        due("SIZE 8", none.least(1), 0);
        S.says("Promise 14", "Refused far: -1.");
        int[] numbers = {-2, 2, 8, MIN, MAX};
        for (int q : numbers) {
            due("least(" + q + ")", none.least(q), 1000000001);
        }
        due("NOBODY", none.count(11), 5);
    }

    private static void may() {
        S.says("Promise 15", "Whether a set MAY be CHOSEN (1, 0).");
        PureGroups x = wave();
        // E is in each; of A, B, C, D two that tell both others: all but C, D.
        int[] good = {16 + 3, 16 + 5, 16 + 9, 16 + 6, 16 + 10};
        for (int set = 0; set < 64; set++) {
            int due = 0;
            for (int one : good) {
                due = one == set ? 1 : due;
            }
            due("may(" + set + ")", x.may(set), due);
        }
        S.says("Promise 15", "-1.");
        int[] sets = {64, 64 + 19, -1, MIN, MAX, MIN + 19};
        for (int set : sets) {
            due("may(" + set + ")", x.may(set), -1);
        }
        due("NOBODY", x.count(11), 6);
    }

    private static void rest() {
        S.says("Promise 16", "The power of QUANTITY p in REST of q by a set.");
        PureGroups x = wave();
        // By A, C, E: B / A C, D C, F.
        int[][] due = {{-1, 1, -1, 0, 0, 0}, {0, 0, 1, 1, 0, 0}, {0, 0, 0, 0, 0, 1}};
        int[] q = {1, 3, 5};
        for (int i = 0; i < 3; i++) {
            for (int p = 0; p < 6; p++) {
                due("rest(21, " + q[i] + ", " + p + ")", x.rest(21, q[i], p), due[i][p]);
            }
        }
        PureGroups one = new PureGroups();
        one.quantity(4);
        due("by the empty set", one.rest(0, 0, 0), 1);
    }

    private static void restRefused() {
        S.says("Promise 16", "Refused far: -1 (set; q, in the set, too; p); -3 the set MAY not be CHOSEN.");
        PureGroups x = wave();
        due("set 64", x.rest(64, 1, 0), 1000000001);
        due("set -1", x.rest(-1, 1, 0), 1000000001);
        due("q in the set", x.rest(21, 0, 1), 1000000001);
        due("q 6", x.rest(21, 6, 1), 1000000001);
        due("q -1", x.rest(21, -1, 1), 1000000001);
        due("q 32", x.rest(21, 32, 1), 1000000001);
        due("p 6", x.rest(21, 1, 6), 1000000001);
        due("p -1", x.rest(21, 1, -1), 1000000001);
        due("not CHOSEN, q in the set", x.rest(7, 1, 1), 1000000001);
        due("not CHOSEN, p 6", x.rest(7, 3, 6), 1000000001);
        due("too many", x.rest(23, 3, 0), 1000000003);
        due("too few", x.rest(5, 3, 0), 1000000003);
        due("a PURE PRODUCT HAS only C, D", x.rest(28, 0, 0), 1000000003);
        due("a PURE one", x.rest(16 + 1 + 32, 1, 0), 1000000003);
        due("p in the set", x.rest(21, 1, 0), -1);
        due("NOBODY", x.count(11), 10);
        due("STATE", x.count(13), 4);
    }

    private static void sets() {
        S.says("Promise 17", "SETS: how many (what 0), the least (1), BEST (2).");
        PureGroups x = wave();
        due("sets(0)", x.sets(0), 5);
        due("sets(1)", x.sets(1), 19);
        // By A, B: 3 + 3 + 1, by A, C: 3 + 2 + 1, by A, D the same.
        due("by A, B", x.sizes(19), 7);
        due("by A, C", x.sizes(21), 6);
        due("by A, D", x.sizes(25), 6);
        due("by B, C", x.sizes(22), 6);
        due("sets(2)", x.sets(2), 21);
        S.says("Promise 17", "-2.");
        int[] whats = {-1, 3, MIN, MAX};
        for (int what : whats) {
            due("sets(" + what + ")", x.sets(what), -2);
        }
        due("OTHER", x.count(12), 4);
    }

    private static void sizes() {
        S.says("Promise 18", "All SIZES of all RESTS by a set together.");
        due("of none", new PureGroups().sizes(0), 0);
        PureGroups pure = new PureGroups();
        for (int q = 0; q < 8; q++) {
            due("of " + q + " PURE ones", pure.sizes(0), q);
            pure.quantity(4);
        }
        due("of eight PURE ones", pure.sizes(0), 8);
        PureGroups far = new PureGroups();
        int[][] told = {{9}, {1, 9}, {0, 1, 9}, {0, 0, 1, 9}, {0, 0, 0, 1, 9}, {0, 0, 0, 0, 1}, {0, 0, 0, 0, 2}, {0, 0, 0, 0, 1}};
        for (int[] one : told) {
            Check.quantity(far, 0, one);
        }
        int once = 1 + 9 + 81 + 729 + 6561;
        due("the farthest", far.sizes(31), once + 59049 + 2 * once + 59049 + once + 59049);
        S.says("Promise 18", "Refused far: -1; -3 it MAY not be CHOSEN.");
        due("set 256", far.sizes(256), FAR_LONG + 1);
        due("set -1", far.sizes(-1), FAR_LONG + 1);
        due("set 0", far.sizes(0), FAR_LONG + 3);
        due("set 255", far.sizes(255), FAR_LONG + 3);
        due("two alike", far.sizes(32 + 64 + 7), FAR_LONG + 3);
        due("NOBODY", far.count(11), 2);
        due("STATE", far.count(13), 3);
    }

    private static void odds() {
        S.says("Promise 19", "ODDS: part 0 above, 1 below the line.");
        PureGroups x = wave();
        // 5 of 20 sets of three.
        due("odds(0)", x.odds(0), 1);
        due("odds(1)", x.odds(1), 4);
        x.turn(5, 1);
        // E, and of A, B, C, D, F (alike D) two that tell the others: not C, D; not C, F; not D, F.
        due("7 of 20", x.odds(0), 7);
        due("7 of 20", x.odds(1), 20);
        due("of none", new PureGroups().odds(0), 1);
        due("of none", new PureGroups().odds(1), 1);
        S.says("Promise 19", "Refused far: -2.");
        int[] parts = {-1, 2, MIN, MAX};
        for (int part : parts) {
            due("odds(" + part + ")", x.odds(part), FAR_LONG + 2);
        }
        due("OTHER", x.count(12), 4);
    }
}
