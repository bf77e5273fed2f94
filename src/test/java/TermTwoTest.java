/** Term 2, sentence by sentence: LOOSE and FIRM ones, GROUPS, COVER, BOX, LEAST, sets, RESTS, ODDS. */
public final class TermTwoTest {
    private static final Sentences S = new Sentences("TermTwoTest");
    private static final String TERM = "Term 2";
    private static final int FAR_NOBODY = 1000000001;
    private static final long FAR_LONG = 4000000000000000000L;

    private static void due(String call, long got, long want) {
        S.due(call, got, want);
    }

    public static void main(String[] args) {
        loose();
        looseOfMany();
        rank();
        groups();
        groupsOfEight();
        groupsInLeastPowers();
        groupsFar();
        cover();
        coverAtTheBounds();
        box();
        least();
        leastOfSeveral();
        may();
        mayAtTheBounds();
        rest();
        sets();
        best();
        odds();
        S.finish(TERM);
    }

    /** Each a QUANTITY: its told powers of UNITS 0, 1, .. */
    private static PureGroups of(int[]... told) {
        PureGroups x = new PureGroups();
        for (int[] one : told) {
            Check.quantity(x, 0, one);
        }
        return x;
    }

    private static int[] p(int... powers) {
        return powers;
    }

    private static PureGroups counts(int n) {
        PureGroups x = new PureGroups();
        for (int q = 0; q < n; q++) {
            x.quantity(4);
        }
        return x;
    }

    // ---- LOOSE, FIRM, RANK

    private static void loose() {
        S.says(TERM, "Of QUANTITIES, by numbers, one is LOOSE, if there is a PURE PRODUCT that HAS it, and else only QUANTITIES"
            + " of lesser numbers that aren't LOOSE; the others are FIRM.");
        PureGroups x = of(p(), p(1), p(2), p(0, 1), p(0, 0), p(1, 1), p(0, 0, 1));
        int[] loose = {1, 0, 1, 0, 1, 1, 0};
        for (int q = 0; q < 7; q++) {
            due("of(" + q + ", 1)", x.of(q, 1), loose[q]);
        }
        due("bits", x.rank(2), 1 + 4 + 16 + 32);
        PureGroups turned = of(p(1, 1), p(0, 1), p(1));
        due("only the last is LOOSE, whatever could be", turned.rank(2), 4);
        PureGroups two = of(p(1), p(-1));
        due("the lesser one is FIRM", two.of(0, 1), 0);
        due("the greater one is LOOSE", two.of(1, 1), 1);
        PureGroups one = of(p(0));
        due("one alone that is PURE", one.of(0, 1), 1);
        one.tell(0, 4, -9);
        due("one alone that isn't", one.of(0, 1), 0);
    }

    private static void looseOfMany() {
        PureGroups x = of(p(0, 0, 0, 0, 1), p(0, 0, 0, 1, 1), p(0, 0, 1, 1, 1), p(0, 1, 1, 1, 1), p(1, 1, 1, 1, 1),
            p(9, -9, 9, -9, 9), p(0, 0, 0, 0, -9), p(1));
        due("five are FIRM, the sixth to eighth never", x.rank(2), 32 + 64 + 128);
        x.turn(1, 4);
        due("a COUNT is LOOSE, the sixth FIRM", x.rank(2), 2 + 64 + 128);
        x.tell(5, 3, 9);
        due("the sixth with UNITS 2 and 3 alike", x.rank(2), 2 + 32 + 64 + 128);
    }

    private static void rank() {
        S.says(TERM, "RANK: how many are FIRM.");
        PureGroups x = new PureGroups();
        due("of none", x.rank(0), 0);
        int[] units = {0, 1, 1, 2, 3, 0, 4};
        int[] due = {1, 2, 2, 3, 4, 4, 5};
        for (int q = 0; q < 7; q++) {
            x.quantity(0);
            due("a PURE one adds none", x.rank(0), q == 0 ? 0 : due[q - 1]);
            x.tell(q, units[q], q + 1);
            due("of " + (q + 1), x.rank(0), due[q]);
            due("GROUPS of the others", x.rank(1), q + 1 - due[q]);
        }
        Check.quantity(x, 3, 1, 2, 3, 4, 5);
        due("never above 5", x.rank(0), 5);
        due("GROUPS of eight", x.rank(1), 3);
        due("eight COUNTS", counts(8).rank(0), 0);
        due("GROUPS of eight COUNTS", counts(8).rank(1), 8);
    }

    // ---- GROUPS

    private static void dueGroup(PureGroups x, int i, int... powers) {
        for (int q = 0; q < powers.length; q++) {
            due("group(" + i + ", " + q + ")", x.group(i, q), powers[q]);
        }
    }

    private static void groups() {
        S.says(TERM, "GROUPS: of each LOOSE one, by numbers (GROUP 0 of the first LOOSE one, and so on), the PURE PRODUCT that HAS it,"
            + " and else only FIRM ones of lesser numbers, with whole powers that have no common divisor but 1, its own above 0.");
        PureGroups x = of(p(), p(1), p(2), p(0, 1), p(0, 0), p(1, 1), p(0, 0, 1));
        dueGroup(x, 0, 1, 0, 0, 0, 0, 0, 0);
        dueGroup(x, 1, 0, -2, 1, 0, 0, 0, 0);
        dueGroup(x, 2, 0, 0, 0, 0, 1, 0, 0);
        dueGroup(x, 3, 0, -1, 0, -1, 0, 1, 0);
        due("there are four", x.group(4, 0), FAR_NOBODY);
        due("none is below 0", x.group(-1, 0), FAR_NOBODY);
        due("none in nothing", new PureGroups().group(0, 0), FAR_NOBODY);
        due("none, if all are FIRM", of(p(1), p(1, 1)).group(0, 0), FAR_NOBODY);
    }

    private static void groupsOfEight() {
        PureGroups x = counts(8);
        for (int i = 0; i < 8; i++) {
            int[] due = new int[8];
            due[i] = 1;
            dueGroup(x, i, due);
        }
        due("the ninth", x.group(8, 0), FAR_NOBODY);
        due("a ninth QUANTITY", x.group(7, 8), FAR_NOBODY);
        // e0, e1, e2, e3, e4 are FIRM, then all of them, e0 / e4, UNIT 2 twice below.
        PureGroups y = of(p(1), p(0, 1), p(0, 0, 1), p(0, 0, 0, 1), p(0, 0, 0, 0, 1),
            p(1, 1, 1, 1, 1), p(1, 0, 0, 0, -1), p(0, 0, -2));
        dueGroup(y, 0, -1, -1, -1, -1, -1, 1, 0, 0);
        dueGroup(y, 1, -1, 0, 0, 0, 1, 0, 1, 0);
        dueGroup(y, 2, 0, 0, 2, 0, 0, 0, 0, 1);
    }

    private static void groupsInLeastPowers() {
        int[][] due = {
            // told of UNIT 0 of the first, of the second; the powers of both
            {6, 4, -2, 3}, {6, -4, 2, 3}, {-6, 4, 2, 3}, {-6, -4, -2, 3}, {6, 6, -1, 1}, {6, -6, 1, 1}, {9, 8, -8, 9},
            {8, 9, -9, 8}, {1, 9, -9, 1}, {9, 1, -1, 9}, {9, -1, 1, 9}, {9, 3, -1, 3}, {3, 9, -3, 1}, {-9, -9, -1, 1}
        };
        for (int[] one : due) {
            PureGroups x = of(p(one[0]), p(one[1]));
            dueGroup(x, 0, one[2], one[3]);
        }
        PureGroups three = of(p(9, 8), p(8, 9), p(1), p(7, -7));
        dueGroup(three, 0, -9, 8, 17, 0);
        dueGroup(three, 1, -7, 7, 0, 1);
        PureGroups half = of(p(2), p(0, 2), p(1, 1), p(2, 4));
        dueGroup(half, 0, -1, -1, 2, 0);
        dueGroup(half, 1, -1, -2, 0, 1);
        PureGroups third = of(p(2), p(0, 3), p(1, 1));
        dueGroup(third, 0, -3, -2, 6);
    }

    /** Each FIRM one 9 of its own UNIT and one of the UNIT below: powers up to 9 to the power 5. */
    private static void groupsFar() {
        PureGroups x = of(p(9), p(1, 9), p(0, 1, 9), p(0, 0, 1, 9), p(0, 0, 0, 1, 9), p(0, 0, 0, 0, 1));
        dueGroup(x, 0, -1, 9, -81, 729, -6561, 59049);
        for (int unit = 0; unit < 5; unit++) {
            x.tell(unit, unit, -9);
        }
        dueGroup(x, 0, 1, 9, 81, 729, 6561, 59049);
        x.list(0, 6);
        x.lays(0, 0, 0);
        due("laid, too", x.look(0, 5), 59049);
        due("too far to be told", x.pure(0), -3);
        // The same with FLOWS (UNIT 1 to the power -11) and RATES (UNIT 2 to the power -10).
        PureGroups far = new PureGroups();
        Check.quantity(far, 3, 0, -9, 1);
        Check.quantity(far, 1, 0, 1, -9);
        Check.quantity(far, 0, 0, 0, 1);
        dueGroup(far, 0, 1, 11, 110);
    }

    // ---- COVER, BOX, LEAST

    private static void dueCover(PureGroups x, int i, long above, long below) {
        due("cover(0, " + i + ", 0)", x.cover(0, i, 0), above);
        due("cover(0, " + i + ", 1)", x.cover(0, i, 1), below);
    }

    private static void cover() {
        S.says(TERM, "COVER: a PURE PRODUCT is that of all GROUPS multiplied, each with a power (a fraction): the power of a GROUP.");
        // GROUPS: B^2 / A, C^2 / A.
        PureGroups x = of(p(2), p(1), p(1));
        Check.list(x, 0, -1, 2, 0);
        dueCover(x, 0, 1, 1);
        dueCover(x, 1, 0, 1);
        Check.list(x, 0, -4, 2, 6);
        dueCover(x, 0, 1, 1);
        dueCover(x, 1, 3, 1);
        Check.list(x, 0, 0, 1, -1);
        dueCover(x, 0, 1, 2);
        dueCover(x, 1, -1, 2);
        Check.list(x, 0, 1, -3, 1);
        dueCover(x, 0, -3, 2);
        dueCover(x, 1, 1, 2);
        x.list(0, 0);
        dueCover(x, 0, 0, 1);
        dueCover(x, 1, 0, 1);
        due("a third GROUP", x.cover(0, 2, 0), FAR_LONG + 1);
        due("GROUP -1", x.cover(0, -1, 0), FAR_LONG + 1);
        // GROUP 0: C^6 / A^3 B^2.
        PureGroups y = of(p(2), p(0, 3), p(1, 1));
        Check.list(y, 0, 3, 2, -6);
        dueCover(y, 0, -1, 1);
        Check.list(y, 0, -6, -4, 12);
        dueCover(y, 0, 2, 1);
    }

    private static void coverAtTheBounds() {
        PureGroups x = of(p(2), p(1), p(1));
        Check.list(x, 0, -99, 99, 99);
        dueCover(x, 0, 99, 2);
        dueCover(x, 1, 99, 2);
        Check.list(x, 0, 0, 99, -99);
        dueCover(x, 1, -99, 2);
        Check.list(x, 0, 0, 98, -98);
        dueCover(x, 1, -49, 1);
        Check.list(x, 0, 0, 100, -100);
        due("100", x.cover(0, 0, 0), FAR_LONG + 3);
        Check.list(x, 0, 0, -99, 100);
        due("not PURE either", x.cover(0, 0, 0), FAR_LONG + 3);
        Check.list(x, 0, 0, 1, 0);
        due("not PURE", x.cover(0, 0, 0), FAR_LONG + 3);
        PureGroups eight = counts(8);
        Check.list(eight, 0, 1, 2, 3, 4, 5, 6, 7, -99, 1000);
        for (int i = 0; i < 7; i++) {
            dueCover(eight, i, i + 1, 1);
        }
        dueCover(eight, 7, -99, 1);
        due("the ninth GROUP", eight.cover(0, 8, 0), FAR_LONG + 1);
    }

    private static void box() {
        S.says(TERM, "BOX: how many PURE PRODUCTS there are all whose powers are -1, 0 or 1 (that of powers 0 alone, too).");
        due("of none", new PureGroups().box(), 1);
        due("of one that is FIRM", of(p(1)).box(), 1);
        due("of one that is PURE", counts(1).box(), 3);
        due("of two alike", of(p(1), p(1)).box(), 3);
        due("a power 2 is too far", of(p(1), p(2)).box(), 1);
        due("of A, B, A B", of(p(1), p(0, 1), p(1, 1)).box(), 3);
        due("of A, A, A^2", of(p(1), p(1), p(2)).box(), 5);
        // As often 1 as -1: 1, 1, 3, 7, 19, 51, 141, 393, 1107 ways.
        int[] alike = {1, 1, 3, 7, 19, 51, 141, 393, 1107};
        PureGroups x = new PureGroups();
        for (int n = 1; n <= 8; n++) {
            Check.quantity(x, 0, 0, 0, 9, -9);
            due("of " + n + " alike", x.box(), alike[n]);
        }
        due("of seven PURE ones", counts(7).box(), 2187);
        due("of eight PURE ones", counts(8).box(), 6561);
    }

    private static void dueLeast(PureGroups x, int size, int... powers) {
        due("least(-1)", x.least(-1), size);
        for (int q = 0; q < powers.length; q++) {
            due("least(" + q + ")", x.least(q), powers[q]);
        }
    }

    private static void least() {
        S.says(TERM, "LEAST: of PURE PRODUCTS whose SIZE (all powers, without their signs, together) is 1 .. 6, that of least SIZE,");
        dueLeast(new PureGroups(), 0);
        dueLeast(of(p(1)), 0, 0);
        dueLeast(of(p(1), p(0, 1)), 0, 0, 0);
        dueLeast(of(p(0)), 1, -1);
        dueLeast(of(p(1), p(0, 0)), 1, 0, -1);
        dueLeast(of(p(1), p(1)), 2, -1, 1);
        dueLeast(of(p(1), p(-1)), 2, -1, -1);
        dueLeast(of(p(1), p(2)), 3, -2, 1);
        dueLeast(of(p(3), p(1)), 4, -1, 3);
        dueLeast(of(p(1), p(4)), 5, -4, 1);
        dueLeast(of(p(3), p(2)), 5, -2, 3);
        dueLeast(of(p(5), p(1)), 6, -1, 5);
        dueLeast(of(p(1), p(5)), 6, -5, 1);
        dueLeast(of(p(6), p(1)), 0, 0, 0);
        dueLeast(of(p(1), p(-6)), 0, 0, 0);
        dueLeast(of(p(5), p(2)), 0, 0, 0);
        dueLeast(of(p(4), p(3)), 0, 0, 0);
        // All of five: SIZE 6; one of them twice: SIZE 7.
        PureGroups x = of(p(1), p(0, 1), p(0, 0, 1), p(0, 0, 0, 1), p(0, 0, 0, 0, 1), p(1, 1, 1, 1, 1));
        dueLeast(x, 6, -1, -1, -1, -1, -1, 1);
        x.tell(5, 4, 2);
        dueLeast(x, 0, 0, 0, 0, 0, 0, 0);
        PureGroups then = of(p(1), p(1));
        dueLeast(then, 2, -1, 1);
        then.tell(1, 1, 1);
        dueLeast(then, 0, 0, 0);
        then.undo();
        dueLeast(then, 2, -1, 1);
    }

    private static void leastOfSeveral() {
        S.says(TERM, "of several the first (by the power of QUANTITY 0, the least first, then by that of 1, and so on).");
        dueLeast(of(p(0), p(0)), 1, -1, 0);
        dueLeast(of(p(1), p(1), p(1)), 2, -1, 0, 1);
        dueLeast(of(p(1), p(-1), p(1)), 2, -1, -1, 0);
        dueLeast(of(p(2), p(1), p(1), p(0, 1)), 2, 0, -1, 1, 0);
        // B C comes behind B^-1 C^-1.
        dueLeast(of(p(1), p(2), p(-2), p(0, 1)), 2, 0, -1, -1, 0);
        dueLeast(of(p(1), p(2), p(3)), 3, -2, 1, 0);
        dueLeast(of(p(3), p(2), p(1)), 3, -1, 1, 1);
        dueLeast(counts(8), 1, -1, 0, 0, 0, 0, 0, 0, 0);
        PureGroups last = of(p(1), p(0, 1), p(0, 0, 1), p(0, 0, 0, 1), p(0, 0, 0, 0, 1), p(9, 8, 7, 6, 5), p(5, 6, 7, 8, 9), p(0));
        dueLeast(last, 1, 0, 0, 0, 0, 0, 0, 0, -1);
    }

    // ---- sets

    private static void dueMay(PureGroups x, int n, int... good) {
        for (int set = 0; set < 1 << n; set++) {
            int due = 0;
            for (int one : good) {
                due = one == set ? 1 : due;
            }
            due("may(" + set + ") of " + n, x.may(set), due);
        }
        due("may(" + (1 << n) + ") of " + n, x.may(1 << n), -1);
        due("may(-1) of " + n, x.may(-1), -1);
    }

    private static void may() {
        S.says(TERM, "A set (bits) of QUANTITIES MAY be CHOSEN, if there are RANK of them and no PURE PRODUCT HAS only QUANTITIES of it (and at least one).");
        dueMay(new PureGroups(), 0, 0);
        dueMay(counts(1), 1, 0);
        dueMay(counts(3), 3, 0);
        dueMay(of(p(1)), 1, 1);
        dueMay(of(p(1), p(1)), 2, 1, 2);
        dueMay(of(p(1), p(1), p(0, 1)), 3, 5, 6);
        dueMay(of(p(1), p(2), p(0, 1), p(0)), 4, 5, 6);
        dueMay(of(p(1), p(0, 1), p(1, 1)), 3, 3, 5, 6);
        dueMay(of(p(1), p(0, 1), p(0, 0, 1)), 3, 7);
        dueMay(of(p(0, 0, 0, 0, 9), p(0, 0, 0, -9, 9), p(0, 0, 0, 9)), 3, 3, 5, 6);
    }

    private static void mayAtTheBounds() {
        PureGroups eight = of(p(1), p(0, 1), p(0, 0, 1), p(0, 0, 0, 1), p(0, 0, 0, 0, 1), p(1), p(1), p(1));
        dueMay(eight, 8, 2 + 4 + 8 + 16 + 1, 2 + 4 + 8 + 16 + 32, 2 + 4 + 8 + 16 + 64, 2 + 4 + 8 + 16 + 128);
        due("bits of no QUANTITY", eight.may(31 + 256), -1);
        due("the greatest", eight.may(Integer.MAX_VALUE), -1);
        due("below 0", eight.may(Integer.MIN_VALUE), -1);
        due("below 0", eight.may(Integer.MIN_VALUE + 31), -1);
        due("one QUANTITY less", of(p(1)).may(2), -1);
    }

    private static void dueRest(PureGroups x, int set, int q, int... powers) {
        for (int p = 0; p < powers.length; p++) {
            due("rest(" + set + ", " + q + ", " + p + ")", x.rest(set, q, p), powers[p]);
        }
    }

    private static void rest() {
        S.says(TERM, "REST of a QUANTITY that isn't in it: the PURE PRODUCT that HAS it, and else only QUANTITIES of the set,"
            + " with whole powers that have no common divisor but 1, its own above 0.");
        PureGroups x = of(p(2), p(3), p(-6), p(0, 5), p(0));
        dueRest(x, 9, 1, -3, 2, 0, 0, 0);
        dueRest(x, 9, 2, 3, 0, 1, 0, 0);
        dueRest(x, 9, 4, 0, 0, 0, 0, 1);
        dueRest(x, 10, 0, 3, -2, 0, 0, 0);
        dueRest(x, 10, 2, 0, 2, 1, 0, 0);
        dueRest(x, 12, 0, 3, 0, 1, 0, 0);
        dueRest(x, 12, 1, 0, 2, 1, 0, 0);
        due("one of the set", x.rest(9, 3, 0), FAR_NOBODY);
        // By QUANTITIES of greater numbers; an own power of 9 to the power 5.
        PureGroups far = of(p(0, 0, 0, 0, 1), p(9), p(1, 9), p(0, 1, 9), p(0, 0, 1, 9), p(0, 0, 0, 1, 9), p(4), p(0, -4));
        dueRest(far, 62, 0, 59049, -1, 9, -81, 729, -6561, 0, 0);
        dueRest(far, 62, 6, 0, -4, 0, 0, 0, 0, 9, 0);
        dueRest(far, 62, 7, 0, -4, 36, 0, 0, 0, 0, 81);
        PureGroups two = of(p(1, 1), p(1, -1), p(1), p(0, 1));
        dueRest(two, 3, 2, -1, -1, 2, 0);
        dueRest(two, 3, 3, -1, 1, 0, 2);
        dueRest(two, 12, 0, 1, 0, -1, -1);
        dueRest(two, 12, 1, 0, 1, -1, 1);
    }

    private static void sets() {
        S.says(TERM, "SETS: how many MAY be CHOSEN; the least (as bits);");
        PureGroups none = new PureGroups();
        due("of none, the empty one", none.sets(0), 1);
        due("of none, the least", none.sets(1), 0);
        due("of PURE ones, the empty one", counts(8).sets(0), 1);
        due("of PURE ones, the least", counts(8).sets(1), 0);
        due("of one", of(p(1)).sets(0), 1);
        due("of one, the least", of(p(1)).sets(1), 1);
        due("all FIRM", of(p(1), p(0, 1), p(1, 1, 1)).sets(1), 7);
        due("eight alike", eightAlike().sets(0), 8);
        due("eight alike, the least", eightAlike().sets(1), 1);
        due("the first is PURE", of(p(0), p(0, 1), p(0, 2), p(1)).sets(0), 2);
        due("the first is PURE, the least", of(p(0), p(0, 1), p(0, 2), p(1)).sets(1), 2 + 8);
        PureGroups four = of(p(1), p(1), p(0, 1), p(0, 1), p(0, 0, 1), p(0, 0, 1), p(0, 0, 0, 1), p(0, 0, 0, 1));
        due("one of each two", four.sets(0), 16);
        due("one of each two, the least", four.sets(1), 1 + 4 + 16 + 64);
    }

    private static PureGroups eightAlike() {
        PureGroups x = new PureGroups();
        for (int q = 0; q < 8; q++) {
            Check.quantity(x, 0, -2, 3);
        }
        return x;
    }

    private static void best() {
        S.says(TERM, "BEST: that by which all SIZES of all RESTS together are least, of several the least as bits.");
        due("of none", new PureGroups().sets(2), 0);
        due("of PURE ones", counts(8).sets(2), 0);
        due("of several the least", eightAlike().sets(2), 1);
        // By A: 3 + 3; by B: 3 + 2; by C: 3 + 2.
        PureGroups x = of(p(2), p(1), p(1));
        due("by A", x.sizes(1), 6);
        due("by B", x.sizes(2), 5);
        due("by C", x.sizes(4), 5);
        due("B", x.sets(2), 2);
        // By A: 1 + 2, 1 + 4; by B: 1 + 2, 1 + 2; by C: 1 + 4, 1 + 2.
        PureGroups y = of(p(1), p(2), p(4));
        due("by A", y.sizes(1), 8);
        due("by B", y.sizes(2), 6);
        due("by C", y.sizes(4), 8);
        due("the one between", y.sets(2), 2);
        // By A: 5 + 3; by B: 5 + 4; by C: 3 + 4; the PURE one is 1 more each.
        PureGroups last = of(p(2), p(3), p(1), p(0));
        due("by A, with a PURE one", last.sizes(1), 9);
        due("by B, with a PURE one", last.sizes(2), 10);
        due("by C, with a PURE one", last.sizes(4), 8);
        due("the last that MAY be CHOSEN", last.sets(2), 4);
        // By A, B or by A, D: 3 + 4; by C, D and by B, C: 3 + 5; by B, D: 4 + 5; not by A, C.
        PureGroups tie = of(p(2), p(2, 2), p(1), p(0, 1));
        due("by A, B", tie.sizes(3), 7);
        due("by A, D", tie.sizes(9), 7);
        due("by C, D", tie.sizes(12), 8);
        due("by B, C", tie.sizes(6), 8);
        due("by B, D", tie.sizes(10), 9);
        due("of A, B and A, D", tie.sets(2), 3);
    }

    private static void dueOdds(PureGroups x, long above, long below) {
        due("odds(0)", x.odds(0), above);
        due("odds(1)", x.odds(1), below);
    }

    private static void odds() {
        S.says(TERM, "ODDS: of all sets of RANK QUANTITIES, each alike likely: how likely one MAY be CHOSEN: a fraction.");
        dueOdds(new PureGroups(), 1, 1);
        dueOdds(counts(8), 1, 1);
        dueOdds(of(p(1)), 1, 1);
        dueOdds(of(p(1), p(0)), 1, 2);
        dueOdds(of(p(1), p(1)), 1, 1);
        dueOdds(of(p(1), p(1), p(0, 1)), 2, 3);
        dueOdds(of(p(1), p(0), p(0), p(0), p(0), p(0), p(0), p(0)), 1, 8);
        dueOdds(of(p(1), p(0, 1), p(0), p(0), p(0), p(0), p(0), p(0)), 1, 28);
        dueOdds(of(p(1), p(0, 1), p(0, 0, 1), p(0, 0, 0, 1), p(0), p(0), p(0), p(0)), 1, 70);
        dueOdds(of(p(1), p(0, 1), p(0, 0, 1), p(0, 0, 0, 1), p(0, 0, 0, 0, 1), p(1), p(1), p(1)), 1, 14);
        dueOdds(of(p(1), p(1), p(0, 1), p(0, 1), p(0, 0, 1), p(0, 0, 1), p(0, 0, 0, 1), p(0, 0, 0, 1)), 8, 35);
        due("part 2", of(p(1)).odds(2), FAR_LONG + 2);
        due("part -1", of(p(1)).odds(-1), FAR_LONG + 2);
    }
}
