/** Promises 20 to 25: SCALES, ALIKE, MUST, WHOLE, OFF. */
public final class ScalesTest {
    private static final Check CHECK = new Check("ScalesTest");
    private static final long FAR = 4000000000000000000L;

    private static void due(String call, long got, long want) {
        CHECK.due(call, got, want);
    }

    public static void main(String[] args) {
        scale();
        scaled();
        alike();
        must();
        whole();
        off();
        primes();
        CHECK.finish();
    }

    /** A (UNIT 0 twice), B and C (once each): GROUPS B^2 / A and C^2 / A. */
    private static PureGroups halves() {
        PureGroups x = new PureGroups();
        Check.quantity(x, 0, 2);
        Check.quantity(x, 0, 1);
        Check.quantity(x, 0, 1);
        return x;
    }

    private static void scale() {
        PureGroups x = halves();
        due("20: 1 by 1", x.scale(0, 1, 1), 1);
        due("20: 99 by 99", x.scale(0, 99, 99), 1);
        due("20: count(2)", x.count(2), 1);
        due("20: none", x.scale(0, 0, 1000), 1);
        due("20: none, below 0", x.scale(0, 0, -5), 1);
        due("20: count(2)", x.count(2), 0);
        due("20: above -1", x.scale(0, -1, 100), -4);
        due("20: below 0", x.scale(0, 100, 0), -4);
        due("20: below -1", x.scale(0, 1, -1), -4);
        due("20: 100 above", x.scale(0, 100, 1), -6);
        due("20: 100 below", x.scale(0, 1, 100), -6);
        due("20: no QUANTITY", x.scale(3, -1, 0), -1);
        due("20: QUANTITY -1", x.scale(-1, 1, 1), -1);
        due("20: nothing changed", x.scaled(0, 0), -9);
        due("20: count(11)", x.count(11), 2);
        due("20: count(14)", x.count(14), 3);
        due("20: count(16)", x.count(16), 2);
        due("20: count(4)", x.count(4), 5);
        x.scale(2, 5, 5);
        due("20: count(2) of the third", x.count(2), 4);
    }

    private static void scaled() {
        PureGroups x = halves();
        due("21: none", x.scaled(1, 0), -9);
        due("21: none, no part", x.scaled(1, 2), -2);
        x.scale(1, 36, 84);
        due("21: above", x.scaled(1, 0), 3);
        due("21: below", x.scaled(1, 1), 7);
        x.scale(1, 10, 10);
        due("21: one", x.scaled(1, 0) * 10 + x.scaled(1, 1), 11);
        due("21: part -1", x.scaled(1, -1), -2);
        due("21: no QUANTITY", x.scaled(3, 2), -1);
        due("21: QUANTITY -1", x.scaled(-1, 0), -1);
        due("21: count(12)", x.count(12), 2);
    }

    private static void alike() {
        PureGroups x = halves();
        due("22: no SCALES", x.alike(), -9);
        x.scale(0, 4, 9);
        x.scale(1, 2, 3);
        due("22: GROUP 0 is alike", x.alike(), -9);
        x.scale(2, 3, 2);
        due("22: GROUP 1 isn't", x.alike(), 1);
        x.scale(1, 1, 1);
        due("22: the first", x.alike(), 0);
        x.scale(0, 0, 0);
        due("22: A has none", x.alike(), -9);
        x.turn(0, 4);
        due("22: A is PURE now, has none", x.alike(), 2 - 1);
        x.scale(0, 97, 1);
        due("22: A alone is a GROUP", x.alike(), 0);
        PureGroups y = halves();
        y.scale(0, 1, 89);
        y.scale(1, 1, 1);
        due("22: a great prime", y.alike(), 0);
    }

    private static void must() {
        PureGroups x = halves();
        x.scale(0, 18, 5);
        due("23: half of one 2", x.must(1, 1, 2, 0), 1);
        due("23: half of one 2", x.must(1, 1, 2, 1), 2);
        due("23: half of two 3", x.must(1, 2, 3, 0), 1);
        due("23: half of two 3", x.must(1, 2, 3, 1), 1);
        due("23: half of -1", x.must(1, 1, 5, 0), -1);
        due("23: half of -1", x.must(1, 1, 5, 1), 2);
        due("23: none of 7", x.must(1, 1, 7, 0), 0);
        due("23: none of 7", x.must(1, 1, 7, 1), 1);
        x.scale(1, 12, 1);
        due("23: twice", x.must(2, 0, 2, 0), 4);
        due("23: alike", x.must(2, 2, 2, 0), 2);
        due("23: in the set", x.must(1, 0, 2, 0), FAR + 1);
        due("23: no QUANTITY", x.must(1, 3, 4, 0), FAR + 1);
        due("23: QUANTITY -1", x.must(1, -1, 4, 0), FAR + 1);
        due("23: no set", x.must(8, 1, 4, 0), FAR + 1);
        due("23: set -1", x.must(-1, 1, 4, 0), FAR + 1);
        int[] noPrimes = {-2, 0, 1, 4, 9, 49, 91, 98, 101, Integer.MAX_VALUE, Integer.MIN_VALUE};
        for (int number : noPrimes) {
            due("23: prime " + number, x.must(3, 2, number, 0), FAR + 2);
        }
        due("23: no part", x.must(3, 2, 2, 2), FAR + 2);
        due("23: part -1", x.must(3, 2, 2, -1), FAR + 2);
        due("23: not CHOSEN", x.must(3, 2, 2, 0), FAR + 3);
        due("23: no SCALE", x.must(4, 0, 2, 0), FAR + 3);
        due("23: count(11)", x.count(11), 5);
        due("23: count(12)", x.count(12), noPrimes.length + 2);
        due("23: count(13)", x.count(13), 2);
    }

    private static void whole() {
        PureGroups x = halves();
        due("24: no SCALE", x.whole(1, 1), -3);
        x.scale(0, 36, 25);
        due("24: all even", x.whole(1, 1), 1);
        x.scale(0, 36, 97);
        due("24: one odd", x.whole(1, 1), 0);
        x.scale(1, 7, 97);
        due("24: twice", x.whole(2, 0), 1);
        due("24: in the set", x.whole(2, 1), -1);
        due("24: no QUANTITY", x.whole(2, 3), -1);
        due("24: no set", x.whole(8, 1), -1);
        due("24: set -1", x.whole(-1, 1), -1);
        due("24: not CHOSEN", x.whole(3, 2), -3);
        due("24: count(11)", x.count(11), 4);
        due("24: count(13)", x.count(13), 2);
    }

    private static void off() {
        PureGroups x = halves();
        due("25: no SCALE", x.off(1), -3);
        x.scale(0, 4, 9);
        due("25: others have none", x.off(1), 0);
        x.scale(1, 2, 3);
        due("25: as it MUST be", x.off(1), 0);
        x.scale(2, 3, 2);
        due("25: one is otherwise", x.off(1), 4);
        x.scale(1, 4, 3);
        due("25: two are", x.off(1), 6);
        due("25: by the second", x.off(2), 5);
        x.scale(0, 2, 1);
        x.scale(2, 0, 0);
        due("25: not whole", x.off(1), 2);
        due("25: no set", x.off(8), -1);
        due("25: set -1", x.off(-1), -1);
        due("25: not CHOSEN", x.off(3), -3);
        due("25: none in it", x.off(0), -3);
        due("25: no SCALE", x.off(4), -3);
        due("25: count(11)", x.count(11), 2);
        due("25: count(13)", x.count(13), 4);
        PureGroups y = new PureGroups();
        y.quantity(4);
        y.quantity(4);
        y.scale(1, 7, 1);
        due("25: PURE ones MUST be one", y.off(0), 2);
        due("24: PURE ones are whole", y.whole(0, 0), 1);
        due("23: PURE ones MUST be one", y.must(0, 1, 7, 0), 0);
    }

    /** All primes below 100 count, each by its own power. */
    private static void primes() {
        int[] primes = {
            2, 3, 5, 7, 11, 13, 17, 19, 23, 29, 31, 37, 41, 43, 47, 53, 59, 61, 67, 71, 73, 79, 83, 89, 97};
        PureGroups x = halves();
        for (int prime : primes) {
            x.scale(1, prime, 1);
            due("23: prime " + prime, x.must(2, 0, prime, 0), 2);
            x.scale(0, prime, 1);
            due("24: prime " + prime, x.whole(1, 1), 0);
            due("22: prime " + prime, x.alike(), 0);
            due("25: prime " + prime, x.off(1), 2);
        }
        x.scale(1, 64, 81);
        due("23: six times", x.must(2, 0, 2, 0), 12);
        due("23: four times below", x.must(2, 0, 3, 0), -8);
    }
}
