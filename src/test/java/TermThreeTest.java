/** Term 3, sentence by sentence: SCALES, primes, ALIKE, MUST, WHOLE, OFF. */
public final class TermThreeTest {
    private static final Sentences S = new Sentences("TermThreeTest");
    private static final String TERM = "Term 3";
    private static final long FAR_LONG = 4000000000000000000L;
    private static final int[] PRIMES = {
        2, 3, 5, 7, 11, 13, 17, 19, 23, 29, 31, 37, 41, 43, 47, 53, 59, 61, 67, 71, 73, 79, 83, 89, 97};

    private static void due(String call, long got, long want) {
        S.due(call, got, want);
    }

    public static void main(String[] args) {
        bounds();
        primePowers();
        noPrimes();
        alike();
        alikePrimes();
        alikeOfEight();
        must();
        mustFar();
        whole();
        off();
        S.finish(TERM);
    }

    /** A of UNIT 0 twice, B and C once: GROUPS B^2 / A, C^2 / A; RESTS by A the same. */
    private static PureGroups halves() {
        PureGroups x = new PureGroups();
        Check.quantity(x, 0, 2);
        Check.quantity(x, 0, 1);
        Check.quantity(x, 0, 1);
        return x;
    }

    /** A and B alike: what B MUST have by A is what A has. */
    private static PureGroups twins() {
        PureGroups x = new PureGroups();
        Check.quantity(x, 0, 0, 3);
        Check.quantity(x, 0, 0, 3);
        return x;
    }

    private static void bounds() {
        S.says(TERM, "A SCALE is above / below (1 .. 99 each).");
        PureGroups x = twins();
        int[][] good = {{1, 1}, {1, 2}, {2, 1}, {1, 98}, {1, 99}, {98, 1}, {99, 1}, {97, 98}, {98, 97}, {98, 99}, {99, 98}};
        for (int[] one : good) {
            due("scale(0, " + one[0] + ", " + one[1] + ")", x.scale(0, one[0], one[1]), 1);
            due("above", x.scaled(0, 0), one[0]);
            due("below", x.scaled(0, 1), one[1]);
        }
        int[][] bad = {{1, 0, -4}, {99, 0, -4}, {1, -1, -4}, {-1, 1, -4}, {-1, 0, -4}, {1, 100, -6}, {100, 1, -6}, {100, 100, -6},
            {99, 100, -6}, {100, 99, -6}, {Integer.MAX_VALUE, 1, -6}, {1, Integer.MAX_VALUE, -6}, {Integer.MIN_VALUE, 1, -4},
            {1, Integer.MIN_VALUE, -4}};
        for (int[] one : bad) {
            due("scale(0, " + one[0] + ", " + one[1] + ")", x.scale(0, one[0], one[1]), one[2]);
            due("above stays", x.scaled(0, 0), 99);
            due("below stays", x.scaled(0, 1), 98);
        }
    }

    private static int often(int prime, int number) {
        int count = 0;
        for (int power = prime; power <= number && number % power == 0; power *= prime) {
            count++;
        }
        return count;
    }

    private static void primePowers() {
        S.says(TERM, "Of a SCALE the power of a prime (2, 3, 5, .. 97) is how often it divides the number above,"
            + " less how often it divides the one below.");
        for (int number = 1; number <= 99; number++) {
            PureGroups x = twins();
            x.scale(0, number, 1);
            for (int prime : PRIMES) {
                due(prime + " in " + number + " above", x.must(1, 1, prime, 0), often(prime, number));
                due("by 1", x.must(1, 1, prime, 1), 1);
            }
            x.scale(0, 1, number);
            for (int prime : PRIMES) {
                due(prime + " in " + number + " below", x.must(1, 1, prime, 0), -often(prime, number));
                due("by 1", x.must(1, 1, prime, 1), 1);
            }
        }
        // above, below, prime, power
        int[][] both = {{64, 32, 2, 1}, {32, 64, 2, -1}, {64, 64, 2, 0}, {6, 4, 2, -1}, {6, 4, 3, 1}, {81, 3, 3, 3}, {98, 49, 7, 0},
            {98, 49, 2, 1}, {97, 97, 97, 0}, {97, 89, 97, 1}, {97, 89, 89, -1}, {64, 1, 2, 6}, {1, 64, 2, -6}, {64, 81, 3, -4}};
        for (int[] one : both) {
            PureGroups x = twins();
            x.scale(0, one[0], one[1]);
            due(one[2] + " in " + one[0] + " / " + one[1], x.must(1, 1, one[2], 0), one[3]);
        }
    }

    private static void noPrimes() {
        PureGroups x = twins();
        x.scale(0, 6, 35);
        for (int number = -7; number <= 110; number++) {
            boolean prime = false;
            for (int one : PRIMES) {
                prime = prime || one == number;
            }
            long answer = x.must(1, 1, number, 1);
            due("prime " + number, answer, prime ? 1 : FAR_LONG + 2);
        }
        due("a far one", x.must(1, 1, Integer.MAX_VALUE, 1), FAR_LONG + 2);
        due("a far one below 0", x.must(1, 1, Integer.MIN_VALUE, 1), FAR_LONG + 2);
        due("none of 97", x.must(1, 1, 97, 0), 0);
    }

    private static void alike() {
        S.says(TERM, "ALIKE: the first GROUP all of whose QUANTITIES (those it HAS) have SCALES, and for which, for some prime,"
            + " the powers of it in their SCALES, each times the power in the GROUP, together aren't 0; -9.");
        due("no QUANTITIES", new PureGroups().alike(), -9);
        PureGroups x = halves();
        due("no SCALES", x.alike(), -9);
        x.scale(0, 4, 9);
        due("one SCALE of two", x.alike(), -9);
        x.scale(1, 2, 3);
        due("2 * 2 of B^2, 4 of A", x.alike(), -9);
        x.scale(1, 3, 2);
        due("the other way round", x.alike(), 0);
        x.scale(1, 2, 3);
        x.scale(2, 4, 3);
        due("GROUP 0 is alike, GROUP 1 isn't", x.alike(), 1);
        x.scale(1, 2, 1);
        due("neither is", x.alike(), 0);
        x.scale(1, 0, 1);
        due("B has no SCALE", x.alike(), 1);
        x.scale(2, 6, 9);
        due("not in least terms, alike", x.alike(), -9);
        x.scale(0, 0, 1);
        x.scale(2, 1, 97);
        due("A has no SCALE", x.alike(), -9);
        x.scale(0, 1, 1);
        due("1 / 1 is a SCALE", x.alike(), 1);
        PureGroups firm = new PureGroups();
        Check.quantity(firm, 0, 1);
        firm.scale(0, 2, 1);
        due("no GROUPS", firm.alike(), -9);
    }

    private static void alikePrimes() {
        for (int prime : PRIMES) {
            PureGroups x = halves();
            x.scale(0, 1, 1);
            x.scale(1, prime, 1);
            due(prime + " above", x.alike(), 0);
            x.scale(1, 1, prime);
            due(prime + " below", x.alike(), 0);
            x.scale(1, prime, prime);
            due(prime + " both", x.alike(), -9);
        }
        // For 2 alone they are together 0, for 3 not.
        PureGroups y = twins();
        y.scale(0, 12, 5);
        y.scale(1, 4, 5);
        due("3 is left", y.alike(), 0);
        y.scale(1, 12, 7);
        due("5 and 7 are left", y.alike(), 0);
        y.scale(1, 12, 5);
        due("none is left", y.alike(), -9);
    }

    private static void alikeOfEight() {
        PureGroups x = new PureGroups();
        for (int q = 0; q < 8; q++) {
            x.quantity(4);
        }
        x.scale(7, 2, 2);
        due("the last is alike", x.alike(), -9);
        for (int q = 7; q >= 0; q--) {
            x.scale(q, 98, 99);
            due("the first of " + (8 - q), x.alike(), q);
        }
    }

    private static void dueMust(PureGroups x, int set, int q, int prime, long above, long below) {
        String call = "must(" + set + ", " + q + ", " + prime + ", ";
        due(call + "0)", x.must(set, q, prime, 0), above);
        due(call + "1)", x.must(set, q, prime, 1), below);
    }

    private static void must() {
        S.says(TERM, "MUST: by a set that MAY be CHOSEN, all QUANTITIES of which have SCALES: for a QUANTITY that isn't in it, and a prime:"
            + " the power (a fraction) that the prime must have in its SCALE so that, in REST, those of all that it HAS,"
            + " each times its power there, together are 0.");
        PureGroups x = halves();
        due("A has no SCALE", x.must(1, 1, 2, 0), FAR_LONG + 3);
        x.scale(0, 18, 5);
        dueMust(x, 1, 1, 2, 1, 2);
        dueMust(x, 1, 1, 3, 1, 1);
        dueMust(x, 1, 1, 5, -1, 2);
        dueMust(x, 1, 1, 7, 0, 1);
        dueMust(x, 1, 2, 2, 1, 2);
        due("B has no SCALE", x.must(2, 0, 2, 0), FAR_LONG + 3);
        x.scale(1, 12, 11);
        dueMust(x, 2, 0, 2, 4, 1);
        dueMust(x, 2, 0, 11, -2, 1);
        dueMust(x, 2, 2, 3, 1, 1);
        due("two are too many", x.must(3, 2, 2, 0), FAR_LONG + 3);
        due("none are too few", x.must(0, 2, 2, 0), FAR_LONG + 3);
        due("in it", x.must(1, 0, 2, 0), FAR_LONG + 1);
        // C = A B^-2: what A has, less twice what B has.
        PureGroups y = new PureGroups();
        Check.quantity(y, 0, 0, 1, 0);
        Check.quantity(y, 0, 0, 0, 1);
        Check.quantity(y, 0, 0, 1, -2);
        y.quantity(4);
        y.scale(0, 8, 3);
        y.scale(1, 2, 9);
        dueMust(y, 3, 2, 2, 1, 1);
        dueMust(y, 3, 2, 3, 3, 1);
        dueMust(y, 3, 3, 2, 0, 1);
        y.scale(2, 1, 4);
        dueMust(y, 3, 2, 2, 1, 1);
        dueMust(y, 5, 1, 2, 5, 2);
        dueMust(y, 5, 1, 3, -1, 2);
        y.scale(1, 0, 0);
        due("B has none", y.must(3, 2, 2, 0), FAR_LONG + 3);
        due("even if C's REST hasn't it", y.must(3, 3, 2, 0), FAR_LONG + 3);
    }

    private static void mustFar() {
        PureGroups x = new PureGroups();
        int[][] told = {{0, 0, 0, 0, 1}, {9}, {1, 9}, {0, 1, 9}, {0, 0, 1, 9}, {0, 0, 0, 1, 9}};
        for (int q = 0; q < 6; q++) {
            Check.quantity(x, 0, told[q]);
            x.scale(q, 1, 1);
        }
        // REST of A: A^59049 B^-1 C^9 D^-81 E^729 F^-6561.
        x.scale(1, 2, 1);
        dueMust(x, 62, 0, 2, 1, 59049);
        x.scale(1, 64, 1);
        dueMust(x, 62, 0, 2, 2, 19683);
        x.scale(5, 1, 64);
        dueMust(x, 62, 0, 2, -13120, 19683);
        x.scale(1, 1, 1);
        dueMust(x, 62, 0, 2, -2, 3);
        x.scale(4, 81, 1);
        dueMust(x, 62, 0, 3, -4, 81);
    }

    private static void whole() {
        S.says(TERM, "WHOLE: whether that is a whole number for each prime (1, 0).");
        int[][] due = {
            {1, 1, 1}, {4, 1, 1}, {1, 4, 1}, {4, 9, 1}, {36, 25, 1}, {2, 2, 1}, {16, 81, 1}, {18, 8, 1}, {49, 64, 1},
            {2, 1, 0}, {1, 2, 0}, {8, 1, 0}, {4, 3, 0}, {97, 4, 0}, {4, 97, 0}, {9, 32, 0}, {96, 6, 1}, {96, 3, 0}
        };
        for (int[] one : due) {
            PureGroups x = halves();
            x.scale(0, one[0], one[1]);
            due("of half of " + one[0] + " / " + one[1], x.whole(1, 1), one[2]);
            due("C, too", x.whole(1, 2), one[2]);
            x.scale(1, one[0], one[1]);
            due("of twice", x.whole(2, 0), 1);
            due("of once", x.whole(2, 2), 1);
        }
        for (int prime : PRIMES) {
            PureGroups x = halves();
            x.scale(0, prime, 1);
            due("half of one " + prime, x.whole(1, 1), 0);
        }
        PureGroups none = new PureGroups();
        none.quantity(4);
        due("0 of each prime", none.whole(0, 0), 1);
    }

    private static void off() {
        S.says(TERM, "OFF: those that aren't in the set (bits), have a SCALE, and in it, for some prime, another power than they MUST.");
        PureGroups x = halves();
        x.scale(0, 4, 9);
        due("B, C have none", x.off(1), 0);
        x.scale(1, 2, 3);
        due("B as it MUST", x.off(1), 0);
        x.scale(1, 6, 9);
        due("B not in least terms", x.off(1), 0);
        x.scale(2, 2, 5);
        due("C by 3 and 5", x.off(1), 4);
        x.scale(1, 2, 1);
        due("both", x.off(1), 6);
        due("by B, A and C", x.off(2), 5);
        x.scale(0, 2, 9);
        x.scale(1, 1, 3);
        due("half a 2 can't be had", x.off(1), 6);
        x.scale(0, 1, 1);
        for (int prime : PRIMES) {
            x.scale(1, prime, 1);
            x.scale(2, 1, prime);
            due("by " + prime + " alone", x.off(1), 6);
        }
        PureGroups eight = new PureGroups();
        for (int q = 0; q < 8; q++) {
            eight.quantity(4);
            eight.scale(q, q == 3 ? 5 : 99, q == 3 ? 5 : 98);
        }
        due("all but one of eight", eight.off(0), 255 - 8);
    }
}
