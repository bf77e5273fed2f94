/** Promises 9 to 19: GROUPS, COVER, BOX, LEAST, sets that MAY be CHOSEN. */
public final class GroupsTest {
    private static final Check CHECK = new Check("GroupsTest");
    private static final long FAR = 4000000000000000000L;

    private static void due(String call, long got, long want) {
        CHECK.due(call, got, want);
    }

    public static void main(String[] args) {
        rank();
        group();
        pure();
        cover();
        box();
        least();
        may();
        rest();
        sets();
        sizes();
        odds();
        none();
        CHECK.finish();
    }

    /** A time, a length, an acceleration, a mass: one GROUP, time^2 acceleration / length. */
    private static PureGroups pendulum() {
        PureGroups x = new PureGroups();
        Check.quantity(x, 0, 0, 0, 1);
        Check.quantity(x, 0, 0, 1, 0);
        Check.quantity(x, 0, 0, 1, -2);
        Check.quantity(x, 0, 1, 0, 0);
        return x;
    }

    /** UNIT 3 squared, plain, plain: two GROUPS with the first to the power -1. */
    private static PureGroups halves() {
        PureGroups x = new PureGroups();
        Check.quantity(x, 0, 0, 0, 0, 2);
        Check.quantity(x, 0, 0, 0, 0, 1);
        Check.quantity(x, 0, 0, 0, 0, 1);
        return x;
    }

    private static void rank() {
        PureGroups x = pendulum();
        due("9: RANK", x.rank(0), 3);
        due("9: GROUPS", x.rank(1), 1);
        due("9: LOOSE ones", x.rank(2), 4);
        due("9: DIMENSIONS", x.rank(3), 4);
        due("9: what 4", x.rank(4), -2);
        due("9: what -1", x.rank(-1), -2);
        due("9: count(12)", x.count(12), 2);
        PureGroups y = halves();
        y.quantity(4);
        y.tell(3, 0, 7);
        due("9: RANK 1", y.rank(0), 1);
        due("9: GROUPS 3", y.rank(1), 3);
        due("9: LOOSE ones 1, 2, 3", y.rank(2), 14);
        due("9: two are alike", y.rank(3), 3);
        y.tell(0, 3, 0);
        due("9: a PURE one is LOOSE", y.rank(2), 13);
        y.turn(3, 0);
        due("9: turned, it is FIRM", y.rank(2), 5);
    }

    private static void group() {
        PureGroups x = pendulum();
        int[] powers = {2, -1, 1, 0};
        for (int q = 0; q < 4; q++) {
            due("10: group(0, " + q + ")", x.group(0, q), powers[q]);
        }
        due("10: no GROUP", x.group(1, 0), 1000000001);
        due("10: GROUP -1", x.group(-1, 0), 1000000001);
        due("10: no QUANTITY", x.group(0, 4), 1000000001);
        due("10: QUANTITY -1", x.group(0, -1), 1000000001);
        due("10: count(11)", x.count(11), 4);
        PureGroups y = new PureGroups();
        Check.quantity(y, 0, 6);
        Check.quantity(y, 0, -4);
        due("10: least powers", y.group(0, 0), 2);
        due("10: its own above 0", y.group(0, 1), 3);
        y.tell(1, 0, 4);
        due("10: the other sign", y.group(0, 0), -2);
        due("10: its own above 0", y.group(0, 1), 3);
        y.turn(1, 4);
        due("10: a PURE one alone", y.group(0, 0), 0);
        due("10: a PURE one alone", y.group(0, 1), 1);
    }

    private static void pure() {
        PureGroups x = pendulum();
        due("11: missing", x.pure(0), -11);
        due("11: no LIST", x.pure(3), -1);
        due("11: LIST -1", x.pure(-1), -1);
        Check.list(x, 0, 2, -1, 1);
        due("11: a shorter one", x.pure(0), 1);
        Check.list(x, 0, -98, 49, -49, 0, 1000, -5);
        due("11: what is behind", x.pure(0), 1);
        Check.list(x, 0, 2, -1, 1, 1);
        due("11: not PURE", x.pure(0), 0);
        Check.list(x, 0, 0, 0, 0, 100);
        due("11: 100", x.pure(0), -3);
        Check.list(x, 0, 0, -100, 0, 0);
        due("11: -100", x.pure(0), -3);
        Check.list(x, 0, 99, -99, 99, 0);
        due("11: 99", x.pure(0), 0);
        x.list(0, 0);
        due("11: a row of none", x.pure(0), 1);
        due("11: count(11)", x.count(11), 2);
        due("11: count(13)", x.count(13), 2);
    }

    private static void cover() {
        PureGroups x = halves();
        Check.list(x, 1, 0, 1, -1);
        due("12: half a GROUP", x.cover(1, 0, 0), 1);
        due("12: half a GROUP", x.cover(1, 0, 1), 2);
        due("12: half, below 0", x.cover(1, 1, 0), -1);
        due("12: half, below 0", x.cover(1, 1, 1), 2);
        Check.list(x, 1, -3, 6, 0, 7);
        due("12: three", x.cover(1, 0, 0), 3);
        due("12: three", x.cover(1, 0, 1), 1);
        due("12: none", x.cover(1, 1, 0), 0);
        due("12: none", x.cover(1, 1, 1), 1);
        due("12: no LIST", x.cover(3, 0, 0), FAR + 1);
        due("12: no GROUP", x.cover(1, 2, 2), FAR + 1);
        due("12: GROUP -1", x.cover(1, -1, 2), FAR + 1);
        due("12: no part", x.cover(0, 0, 2), FAR + 2);
        due("12: part -1", x.cover(0, 0, -1), FAR + 2);
        due("12: missing", x.cover(0, 0, 0), FAR + 11);
        Check.list(x, 1, 0, 1, 0);
        due("12: not PURE", x.cover(1, 0, 0), FAR + 3);
        Check.list(x, 1, -100, 200, 0);
        due("12: a number", x.cover(1, 0, 0), FAR + 3);
        due("12: count(11)", x.count(11), 3);
        due("12: count(12)", x.count(12), 2);
        due("12: count(13)", x.count(13), 2);
    }

    private static void box() {
        due("13: a GROUP with a 2", pendulum().box(), 1);
        due("13: ones", halves().box(), 5);
        PureGroups x = new PureGroups();
        for (int q = 0; q < 8; q++) {
            x.quantity(4);
        }
        due("13: all PURE", x.box(), 6561);
        x.turn(7, 1);
        due("13: all but one PURE", x.box(), 2187);
    }

    private static void least() {
        PureGroups x = pendulum();
        int[] powers = {-2, 1, -1, 0};
        due("14: SIZE", x.least(-1), 4);
        for (int q = 0; q < 4; q++) {
            due("14: least(" + q + ")", x.least(q), powers[q]);
        }
        due("14: no QUANTITY", x.least(4), 1000000001);
        due("14: -2", x.least(-2), 1000000001);
        due("14: count(11)", x.count(11), 2);
        PureGroups y = new PureGroups();
        Check.quantity(y, 0, 5);
        Check.quantity(y, 0, 1);
        due("14: SIZE 6", y.least(-1), 6);
        due("14: the least first", y.least(0), -1);
        due("14: the least first", y.least(1), 5);
        y.tell(0, 0, 6);
        due("14: SIZE 7 is none", y.least(-1), 0);
        due("14: none", y.least(0), 0);
        due("14: none", y.least(1), 0);
        y.tell(1, 0, 0);
        due("14: SIZE 1", y.least(-1), 1);
        due("14: SIZE 1", y.least(1), -1);
        due("14: as now", y.undo() * 100 + y.least(-1), 200);
        PureGroups z = halves();
        due("14: SIZE 2 before 3", z.least(-1), 2);
        due("14: of the same SIZE the first", z.least(1) * 10 + z.least(2), -9);
    }

    private static void may() {
        PureGroups x = pendulum();
        int[] good = {11, 13, 14};
        for (int set = 0; set < 16; set++) {
            int due = 0;
            for (int one : good) {
                due = one == set ? 1 : due;
            }
            due("15: may(" + set + ")", x.may(set), due);
        }
        due("15: no QUANTITY", x.may(16), -1);
        due("15: below 0", x.may(-1), -1);
        due("15: below 0", x.may(Integer.MIN_VALUE), -1);
        due("15: count(11)", x.count(11), 3);
    }

    private static void rest() {
        PureGroups x = pendulum();
        int[][] powers = {{2, -1, 1, 0}, {-2, 1, -1, 0}, {2, -1, 1, 0}};
        int[] sets = {14, 13, 11};
        for (int q = 0; q < 3; q++) {
            for (int p = 0; p < 4; p++) {
                due("16: rest(" + sets[q] + ", " + q + ", " + p + ")", x.rest(sets[q], q, p), powers[q][p]);
            }
        }
        due("16: set below 0", x.rest(-1, 0, 0), 1000000001);
        due("16: no such set", x.rest(16, 0, 0), 1000000001);
        due("16: in the set", x.rest(14, 1, 0), 1000000001);
        due("16: no QUANTITY q", x.rest(14, 4, 0), 1000000001);
        due("16: QUANTITY -1", x.rest(14, -1, 0), 1000000001);
        due("16: no QUANTITY p", x.rest(14, 0, 4), 1000000001);
        due("16: p -1", x.rest(7, 3, -1), 1000000001);
        due("16: not CHOSEN", x.rest(7, 3, 0), 1000000003);
        due("16: too few", x.rest(3, 3, 0), 1000000003);
        due("16: count(11)", x.count(11), 7);
        due("16: count(13)", x.count(13), 2);
    }

    private static void sets() {
        PureGroups x = pendulum();
        due("17: how many", x.sets(0), 3);
        due("17: the least", x.sets(1), 11);
        due("17: BEST, of several the least", x.sets(2), 11);
        due("17: what 3", x.sets(3), -2);
        due("17: what -1", x.sets(-1), -2);
        due("17: count(12)", x.count(12), 2);
        PureGroups y = halves();
        due("17: of one", y.sets(0), 3);
        due("17: the least", y.sets(1), 1);
        due("17: BEST is another", y.sets(2), 2);
        y.turn(1, 4);
        due("17: as it is now", y.sets(0), 2);
        due("17: alike now, the least", y.sets(2), 1);
        y.undo();
        due("17: as it was", y.sets(2), 2);
        y.tell(2, 3, 2);
        due("17: as it is now", y.sets(2), 1);
        due("17: a third of 3", y.sets(0), 3);
    }

    private static void sizes() {
        PureGroups x = halves();
        due("18: by the first", x.sizes(1), 6);
        due("18: by the second", x.sizes(2), 5);
        due("18: no such set", x.sizes(8), FAR + 1);
        due("18: below 0", x.sizes(-1), FAR + 1);
        due("18: none", x.sizes(0), FAR + 3);
        due("18: too many", x.sizes(3), FAR + 3);
        x.quantity(4);
        due("18: a PURE one more", x.sizes(2), 6);
        due("18: by a PURE one", x.sizes(8), FAR + 3);
        due("18: count(11)", x.count(11), 2);
        due("18: count(13)", x.count(13), 3);
    }

    private static void odds() {
        PureGroups x = pendulum();
        due("19: above", x.odds(0), 3);
        due("19: below", x.odds(1), 4);
        due("19: part 2", x.odds(2), FAR + 2);
        due("19: part -1", x.odds(-1), FAR + 2);
        due("19: count(12)", x.count(12), 2);
        PureGroups y = pendulum();
        Check.quantity(y, 0, 0, 1, -1);
        due("19: 6 of 10 in least terms", y.odds(0), 3);
        due("19: 6 of 10 in least terms", y.odds(1), 5);
    }

    private static void none() {
        PureGroups x = new PureGroups();
        due("9: none", x.rank(0) + x.rank(1) + x.rank(2) + x.rank(3), 0);
        due("10: none", x.group(0, 0), 1000000001);
        x.list(0, 3);
        x.put(0, 0, 500);
        due("11: none", x.pure(0), 1);
        due("12: none", x.cover(0, 0, 0), FAR + 1);
        due("13: none", x.box(), 1);
        due("14: none", x.least(-1), 0);
        due("14: none", x.least(0), 1000000001);
        due("15: none", x.may(0), 1);
        due("15: none", x.may(1), -1);
        due("17: none", x.sets(0) * 100 + x.sets(1) * 10 + x.sets(2), 100);
        due("18: none", x.sizes(0), 0);
        due("19: none", x.odds(0) * 10 + x.odds(1), 11);
    }
}
