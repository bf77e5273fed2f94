/** Promises 20 to 25, sentence by sentence. */
public final class PromisesOfScalesTest {
    private static final Sentences S = new Sentences("PromisesOfScalesTest");
    private static final long FAR_LONG = 4000000000000000000L;
    private static final int MIN = Integer.MIN_VALUE;
    private static final int MAX = Integer.MAX_VALUE;

    private static void due(String call, long got, long want) {
        S.due(call, got, want);
    }

    public static void main(String[] args) {
        scale();
        scaleRefused();
        scaled();
        alike();
        must();
        mustRefused();
        whole();
        wholeRefused();
        off();
        offRefused();
        S.finish("Promise 20", "Promise 21", "Promise 22", "Promise 23", "Promise 24", "Promise 25");
    }

    /** A force, a mass, an acceleration, a length, a number: GROUPS B C / A (turned), E; D is FIRM. */
    private static PureGroups force() {
        PureGroups x = new PureGroups();
        Check.quantity(x, 0, 1, 1, -2);
        Check.quantity(x, 0, 1);
        Check.quantity(x, 0, 0, 1, -2);
        Check.quantity(x, 0, 0, 1);
        x.quantity(4);
        return x;
    }

    private static void scale() {
        S.says("Promise 20", "SCALE of a QUANTITY becomes above / below (above 0: none, below doesn't matter then): 1.");
        PureGroups x = force();
        due("scale(0, 1, 99)", x.scale(0, 1, 99), 1);
        due("below", x.scaled(0, 1), 99);
        due("scale(4, 99, 1)", x.scale(4, 99, 1), 1);
        due("above", x.scaled(4, 0), 99);
        due("bits", x.count(2), 17);
        due("once more", x.scale(4, 7, 5), 1);
        due("the later one", x.scaled(4, 0) * 10 + x.scaled(4, 1), 75);
        int[] belows = {0, -1, 1, 99, 100, MIN, MAX};
        for (int below : belows) {
            x.scale(4, 2, 3);
            due("scale(4, 0, " + below + ")", x.scale(4, 0, below), 1);
            due("none", x.scaled(4, 0), -9);
            due("bits", x.count(2), 1);
        }
        due("DIMENSION stays", x.of(0, 22), -2);
    }

    private static void scaleRefused() {
        S.says("Promise 20", "-1; -4 (above 0, below 1); -6 99 either.");
        PureGroups x = force();
        due("none is there", new PureGroups().scale(0, 0, 0), -1);
        due("QUANTITY 5", x.scale(5, 100, 0), -1);
        due("QUANTITY -1", x.scale(-1, -1, 1), -1);
        due("above -1", x.scale(0, -1, 1), -4);
        due("above -1, below 100", x.scale(0, -1, 100), -4);
        due("below 0", x.scale(0, 1, 0), -4);
        due("below 0, above 100", x.scale(0, 100, 0), -4);
        due("above 100", x.scale(0, 100, 1), -6);
        due("below 100", x.scale(0, 1, 100), -6);
        due("both 100", x.scale(0, 100, 100), -6);
        due("none has a SCALE", x.count(2), 0);
        due("nothing can be UNDONE of it", x.count(4), 0);
        due("NOBODY", x.count(11), 2);
        due("BELOW", x.count(14), 4);
        due("ROOM", x.count(16), 3);
    }

    private static void scaled() {
        S.says("Promise 21", "SCALE in least terms: part 0 above, 1 below the line; -9 none.");
        PureGroups x = force();
        due("none", x.scaled(1, 0), -9);
        due("none", x.scaled(1, 1), -9);
        int[][] due = {{1, 1, 1, 1}, {99, 99, 1, 1}, {99, 1, 99, 1}, {1, 99, 1, 99}, {98, 99, 98, 99}, {96, 64, 3, 2}, {64, 96, 2, 3},
            {97, 97, 1, 1}, {50, 75, 2, 3}, {90, 9, 10, 1}, {9, 90, 1, 10}, {72, 48, 3, 2}, {2, 4, 1, 2}};
        for (int[] one : due) {
            x.scale(1, one[0], one[1]);
            due(one[0] + " / " + one[1] + " above", x.scaled(1, 0), one[2]);
            due(one[0] + " / " + one[1] + " below", x.scaled(1, 1), one[3]);
        }
        S.says("Promise 21", "-1; -2.");
        due("QUANTITY 5", x.scaled(5, 0), -1);
        due("QUANTITY -1, part 2", x.scaled(-1, 2), -1);
        due("part 2", x.scaled(1, 2), -2);
        due("part -1", x.scaled(1, -1), -2);
        due("part 2, none", x.scaled(2, 2), -2);
        due("NOBODY", x.count(11), 2);
        due("OTHER", x.count(12), 3);
    }

    private static void alike() {
        S.says("Promise 22", "ALIKE: its number; -9.");
        PureGroups x = force();
        due("no SCALES", x.alike(), -9);
        x.scale(0, 6, 1);
        x.scale(1, 2, 1);
        due("C has none", x.alike(), -9);
        x.scale(2, 3, 1);
        due("6 of A, 2 of B, 3 of C", x.alike(), -9);
        x.scale(3, 5, 1);
        due("D is in no GROUP", x.alike(), -9);
        x.scale(4, 1, 1);
        due("E 1 / 1", x.alike(), -9);
        x.scale(4, 2, 1);
        due("E 2 / 1", x.alike(), 1);
        x.scale(2, 3, 2);
        due("C 3 / 2", x.alike(), 0);
        x.scale(1, 0, 0);
        due("B has none", x.alike(), 1);
        x.undo();
        due("undone", x.alike(), 0);
    }

    private static void must() {
        S.says("Promise 23", "MUST of a QUANTITY by a set, for a prime: part 0 above, 1 below the line.");
        PureGroups x = force();
        x.scale(0, 12, 7);
        x.scale(1, 10, 9);
        x.scale(3, 1, 97);
        // By A, B, D (11): C = A / B.
        int[][] due = {{2, 1}, {3, 3}, {5, -1}, {7, -1}, {11, 0}, {97, 0}};
        for (int[] one : due) {
            due("must(11, 2, " + one[0] + ", 0)", x.must(11, 2, one[0], 0), one[1]);
            due("must(11, 2, " + one[0] + ", 1)", x.must(11, 2, one[0], 1), 1);
            due("of E", x.must(11, 4, one[0], 0), 0);
            due("of E, below", x.must(11, 4, one[0], 1), 1);
        }
        x.scale(2, 64, 1);
        due("what C has doesn't matter", x.must(11, 2, 2, 0), 1);
        PureGroups roots = new PureGroups();
        Check.quantity(roots, 0, 4);
        Check.quantity(roots, 0, 6);
        roots.scale(0, 8, 3);
        roots.scale(1, 1, 1);
        // B^2 A^-3: three halves of what A has.
        due("9 / 2", roots.must(1, 1, 2, 0), 9);
        due("9 / 2", roots.must(1, 1, 2, 1), 2);
        due("-3 / 2", roots.must(1, 1, 3, 0), -3);
        due("-3 / 2", roots.must(1, 1, 3, 1), 2);
        due("0", roots.must(2, 0, 97, 0), 0);
        due("0 by 1", roots.must(2, 0, 97, 1), 1);
    }

    private static void mustRefused() {
        S.says("Promise 23", "Refused far: -1 (set; q, in the set, too); -2 prime, part; -3 the set MAY not be CHOSEN, one of it has no SCALE.");
        PureGroups x = force();
        x.scale(0, 2, 1);
        x.scale(1, 2, 1);
        due("set 32", x.must(32, 2, 4, 2), FAR_LONG + 1);
        due("set -1", x.must(-1, 2, 2, 0), FAR_LONG + 1);
        due("q in the set", x.must(11, 3, 2, 0), FAR_LONG + 1);
        due("q 5", x.must(11, 5, 1, 0), FAR_LONG + 1);
        due("q -1", x.must(11, -1, 2, 0), FAR_LONG + 1);
        int[] numbers = {0, 1, 4, 6, 9, 15, 25, 49, 77, 91, 98, 99, 101, 103, -2, MIN, MAX};
        for (int number : numbers) {
            due("prime " + number, x.must(11, 2, number, 0), FAR_LONG + 2);
        }
        due("part 2", x.must(11, 2, 2, 2), FAR_LONG + 2);
        due("part -1, not CHOSEN", x.must(3, 2, 2, -1), FAR_LONG + 2);
        due("too few", x.must(3, 2, 2, 0), FAR_LONG + 3);
        due("A, B, C: a PURE PRODUCT", x.must(7, 3, 2, 0), FAR_LONG + 3);
        due("D has no SCALE", x.must(11, 2, 2, 0), FAR_LONG + 3);
        x.scale(3, 1, 1);
        due("it has one", x.must(11, 2, 2, 0), 0);
        due("NOBODY", x.count(11), 5);
        due("OTHER", x.count(12), numbers.length + 2);
        due("STATE", x.count(13), 3);
    }

    private static void whole() {
        S.says("Promise 24", "WHOLE of a QUANTITY by a set.");
        PureGroups x = new PureGroups();
        Check.quantity(x, 0, 4);
        Check.quantity(x, 0, 6);
        Check.quantity(x, 0, 2);
        int[][] due = {{1, 1, 1, 1}, {4, 9, 1, 1}, {64, 1, 1, 1}, {8, 1, 0, 0}, {2, 3, 0, 0}, {36, 1, 1, 1}, {1, 50, 0, 0}, {1, 49, 1, 1}};
        for (int[] one : due) {
            x.scale(0, one[0], one[1]);
            due("three halves of " + one[0] + " / " + one[1], x.whole(1, 1), one[2]);
            due("one half of " + one[0] + " / " + one[1], x.whole(1, 2), one[3]);
        }
        int[][] thirds = {{8, 27, 1}, {64, 1, 1}, {4, 1, 0}, {8, 9, 0}, {16, 2, 1}, {1, 97, 0}};
        for (int[] one : thirds) {
            x.scale(1, one[0], one[1]);
            due("two thirds of " + one[0] + " / " + one[1], x.whole(2, 0), one[2]);
            due("one third of " + one[0] + " / " + one[1], x.whole(2, 2), one[2]);
        }
        x.scale(2, 97, 89);
        due("twice", x.whole(4, 0), 1);
        due("three times", x.whole(4, 1), 1);
    }

    private static void wholeRefused() {
        S.says("Promise 24", "-1 (set; q, in the set, too); -3 as must().");
        PureGroups x = force();
        due("set 32", x.whole(32, 2), -1);
        due("set -1", x.whole(-1, 2), -1);
        due("q in the set", x.whole(11, 0), -1);
        due("q in a set that MAY not be CHOSEN", x.whole(7, 0), -1);
        due("q 5", x.whole(11, 5), -1);
        due("q -1", x.whole(11, -1), -1);
        due("too few", x.whole(3, 2), -3);
        due("too many", x.whole(15, 4), -3);
        due("no SCALES", x.whole(11, 2), -3);
        x.scale(0, 1, 1);
        x.scale(1, 1, 1);
        due("D has none", x.whole(11, 2), -3);
        x.scale(3, 1, 1);
        due("all have one", x.whole(11, 2), 1);
        due("NOBODY", x.count(11), 6);
        due("STATE", x.count(13), 4);
    }

    private static void off() {
        S.says("Promise 25", "OFF by a set (bits).");
        PureGroups x = force();
        x.scale(0, 6, 5);
        x.scale(1, 2, 5);
        x.scale(3, 97, 1);
        due("C, E have none", x.off(11), 0);
        x.scale(2, 3, 1);
        due("C as it MUST", x.off(11), 0);
        x.scale(4, 5, 5);
        due("E as it MUST", x.off(11), 0);
        x.scale(2, 1, 3);
        due("C by its sign", x.off(11), 4);
        x.scale(4, 97, 1);
        due("both", x.off(11), 20);
        x.scale(2, 6, 1);
        due("C by 2 alone", x.off(11), 20);
        due("by A, C, D: B", x.off(13), 18);
        x.scale(1, 1, 5);
        due("by A, C, D: B as it MUST", x.off(13), 16);
        x.scale(0, 0, 0);
        due("by B, C, D: A has none", x.off(14), 16);
    }

    private static void offRefused() {
        S.says("Promise 25", "-1; -3 as must().");
        PureGroups x = force();
        int[] sets = {32, -1, 32 + 11, MIN, MAX};
        for (int set : sets) {
            due("off(" + set + ")", x.off(set), -1);
        }
        due("too few", x.off(0), -3);
        due("a PURE PRODUCT", x.off(7), -3);
        due("a PURE one", x.off(1 + 2 + 16), -3);
        due("no SCALES", x.off(11), -3);
        due("NOBODY", x.count(11), 5);
        due("STATE", x.count(13), 4);
        due("the empty set of none", new PureGroups().off(0), 0);
    }
}
