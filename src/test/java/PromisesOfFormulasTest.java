/** Promises 26 to 32, sentence by sentence. */
public final class PromisesOfFormulasTest {
    private static final Sentences S = new Sentences("PromisesOfFormulasTest");
    private static final int MIN = Integer.MIN_VALUE;
    private static final int MAX = Integer.MAX_VALUE;

    private static void due(String call, long got, long want) {
        S.due(call, got, want);
    }

    public static void main(String[] args) {
        fewest();
        fewestRefused();
        had();
        formula();
        formulaFault();
        formulaTerms();
        wrong();
        wrongQuantities();
        wrongRefused();
        sides();
        sidesRefused();
        mend();
        mendRefused();
        lots();
        lotsRefused();
        S.finish("Promise 26", "Promise 27", "Promise 28", "Promise 29", "Promise 30", "Promise 31", "Promise 32");
    }

    /** A a length, B a speed (a RATE), C a mass. */
    private static PureGroups mechanics() {
        PureGroups x = new PureGroups();
        Check.quantity(x, 0, 0, 1, 0);
        Check.quantity(x, 1, 0, 1, 0);
        Check.quantity(x, 0, 1, 0, 0);
        return x;
    }

    private static void fewest() {
        S.says("Promise 26", "FEWEST for the DIMENSION that a LIST tells: how many (i -1), the i-th FACTOR; -9 none (there are not so many, too).");
        PureGroups x = mechanics();
        for (int list = 0; list < 3; list++) {
            // a time to the power 1: A / B
            Check.list(x, list, 0, 0, 1);
            due("how many", x.fewest(list, -1), 2);
            due("the first", x.fewest(list, 0), 0);
            due("the second", x.fewest(list, 1), 3);
            due("not so many", x.fewest(list, 2), -9);
            due("not so many", x.fewest(list, MAX), -9);
        }
        // an energy: B B C
        Check.list(x, 0, 1, 2, -2);
        int[] row = {3, 2, 2, 4};
        for (int i = -1; i < 3; i++) {
            due("fewest(0, " + i + ")", x.fewest(0, i), row[i + 1]);
        }
        due("not so many", x.fewest(0, 3), -9);
        x.list(0, 0);
        due("PURE: none is needed", x.fewest(0, -1), 0);
        due("not so many", x.fewest(0, 0), -9);
        Check.list(x, 0, 2, 2);
        for (int i = -1; i < 5; i++) {
            due("four would be", x.fewest(0, i), -9);
        }
        Check.list(x, 0, 99, -99, 99, -99, 99);
        due("as far as may be", x.fewest(0, -1), -9);
        x.turn(0, 5);
        Check.list(x, 0, 0, 0, 0);
        due("PURE", x.fewest(0, -1), 0);
        Check.list(x, 0, 0, 0, -2);
        due("as now", x.fewest(0, -1), -9);
        x.undo();
        due("as now", x.fewest(0, -1), -9);
        Check.list(x, 0, 0, 1, -2);
        due("B B / A", x.fewest(0, 0) * 100 + x.fewest(0, 1) * 10 + x.fewest(0, 2), 122);
    }

    private static void fewestRefused() {
        S.says("Promise 26", "-1; -11; -3 a number that may not be; -4 i below -1.");
        PureGroups x = mechanics();
        due("LIST 3", x.fewest(3, -2), -1);
        due("LIST -1", x.fewest(-1, -1), -1);
        due("missing", x.fewest(0, -2), -11);
        int[] far = {100, -100, MIN, MAX};
        for (int v : far) {
            for (int i = 0; i < 7; i++) {
                x.list(0, 7);
                x.put(0, i, v);
                due(v + " at " + i, x.fewest(0, -2), i < 5 ? -3 : -4);
                due(v + " at " + i, x.fewest(0, -1), i < 5 ? -3 : 0);
            }
        }
        due("least", x.fewest(0, MIN), -4);
        due("NOBODY", x.count(11), 2);
        due("STATE", x.count(13), 40);
        due("BELOW", x.count(14), 9);
    }

    private static void had() {
        S.says("Promise 27", "HAD by n (0 .. 3).");
        PureGroups x = mechanics();
        int[] due = {1, 7, 25, 63};
        for (int n = 0; n <= 3; n++) {
            due("had(" + n + ")", x.had(n), due[n]);
        }
        x.quantity(4);
        for (int n = 0; n <= 3; n++) {
            due("a PURE one more: had(" + n + ")", x.had(n), due[n]);
        }
        x.turn(1, 0);
        // A and B alike: 1, 5, 13, 25 points of two powers.
        int[] alike = {1, 5, 13, 25};
        for (int n = 0; n <= 3; n++) {
            due("A, B alike: had(" + n + ")", x.had(n), alike[n]);
        }
        S.says("Promise 27", "-4; -6.");
        due("had(-1)", x.had(-1), -4);
        due("had(least)", x.had(MIN), -4);
        due("had(4)", x.had(4), -6);
        due("had(greatest)", x.had(MAX), -6);
        due("BELOW", x.count(14), 2);
        due("ROOM", x.count(16), 2);
    }

    private static void formula() {
        S.says("Promise 28", "The letters become THE FORMULA, and are no more (with a FAULT neither; THE FORMULA stays then):");
        PureGroups x = mechanics();
        Check.say(x, "A*C=B");
        due("letters", x.count(1), 5);
        due("TERMS", x.formula(), 2);
        due("letters are no more", x.count(1), 0);
        due("THE FORMULA", x.wrong(2), 7);
        due("no letters: a FAULT", x.formula(), -1000);
        due("THE FORMULA stays", x.wrong(2), 7);
        due("TERMS stay", x.count(3), 2);
        Check.say(x, "B=B+B=");
        due("a FAULT", x.formula(), -1005);
        due("letters are no more", x.count(1), 0);
        due("THE FORMULA stays", x.wrong(2), 7);
        due("the next begins anew", Check.formula(x, "B=B+B"), 3);
        due("another FORMULA", x.wrong(2), 2);
        due("TERMS", x.count(3), 3);
        Check.say(x, "A");
        due("letters that come don't matter", x.sides(0, 2), -1);
        due("letters that come stay", x.count(1), 1);
        due("they go on", Check.formula(x, "=A"), 2);
    }

    private static void formulaFault() {
        S.says("Promise 28", "the FAULT (not counted).");
        PureGroups x = mechanics();
        String[] texts = {"", "A", "A=", "A=A)", "((((((((", "1234", "A^^", "s", "D", "a"};
        int[] places = {0, 1, 2, 3, 6, 3, 2, 1, 0, 0};
        for (int i = 0; i < texts.length; i++) {
            due("FAULT of " + texts[i], Check.formula(x, texts[i]), -1000 - places[i]);
            due("no FORMULA", x.count(3), -9);
        }
        due("a power lacks behind 72 letters", Check.formula(x, "A=A" + "*1".repeat(34) + "^"), -1072);
        due("a FAULT at 71", Check.formula(x, "A=A" + "*1".repeat(34) + "A"), -1071);
        for (int what = 11; what <= 16; what++) {
            due("count(" + what + ")", x.count(what), 0);
        }
    }

    private static void formulaTerms() {
        S.says("Promise 28", "how many TERMS it has in all;");
        PureGroups x = mechanics();
        String[] texts = {"1=1", "A=B+C", "A-B=C", "A*B/C=1", "(A)=1", "(A+B)=1", "((A))=1", "s(A)=s(B)", "s(A+B)*(C-A)=1+1",
            "A^2=B^-3", "(((((((A)))))))=1", "A=((((((A+B)-C)+A)-B)+C)-A)"};
        int[] terms = {2, 3, 3, 2, 3, 4, 4, 4, 7, 2, -1006, 1 + 1 + 12};
        for (int i = 0; i < texts.length; i++) {
            due("TERMS of " + texts[i], Check.formula(x, texts[i]), terms[i]);
        }
        due("the most in 72 letters", Check.formula(x, "1" + "+1".repeat(34) + "=12"), 36);
        due("of them, (", Check.formula(x, "(1)" + "+(1)".repeat(16) + "=12"), 2 * 17 + 1);
    }

    private static void wrong() {
        S.says("Promise 29", "WRONG: the first place (what 0; -9), how many places (1),");
        PureGroups x = mechanics();
        Object[][] due = {
            {"A=A", -9, 0}, {"A=B", 1, 1}, {"A+B=A", 2, 1}, {"s(B)=1", 0, 1}, {"A=A+A-C", 6, 1}, {"A+B-C=C+B-A", 2, 5},
            {"A=s(A)", 1, 2}, {"A+s(C)=A", 2, 1}, {"(A-(B+C))=A", 3, 2}, {"A^2=A*A-B^2", 8, 1}, {"C*B^2=C*A^2", 5, 1}};
        for (Object[] one : due) {
            Check.formula(x, (String) one[0]);
            due("first of " + one[0], x.wrong(0), (Integer) one[1]);
            due("how many of " + one[0], x.wrong(1), (Integer) one[2]);
        }
        Check.formula(x, "A" + "+1".repeat(33) + "+B=A");
        due("first of 72 letters", x.wrong(0), 2);
        due("how many of 72 letters", x.wrong(1), 34);
        Check.formula(x, "A" + "*1".repeat(33) + "=A+C");
        due("the last place", x.wrong(0), 70);
    }

    private static void wrongQuantities() {
        S.says("Promise 29", "QUANTITIES that stand in THE FORMULA (2, bits).");
        PureGroups x = new PureGroups();
        for (int q = 0; q < 8; q++) {
            x.quantity(0);
        }
        String[] texts = {"1=2", "A=1", "1=A", "A=A*A", "B=C", "H=1", "A*B*C*D=E*F*G*H", "s(s(D)^0)=1", "(A+(C-(E*(G))))=1", "A^0=1/H"};
        int[] bits = {0, 1, 1, 1, 6, 128, 255, 8, 85, 129};
        for (int i = 0; i < texts.length; i++) {
            Check.formula(x, texts[i]);
            due(texts[i], x.wrong(2), bits[i]);
        }
        Check.formula(x, "B=C=D");
        due("after a FAULT", x.wrong(2), 129);
    }

    private static void wrongRefused() {
        S.says("Promise 29", "-2; -3 there is none.");
        PureGroups x = mechanics();
        for (int what = 0; what <= 2; what++) {
            due("wrong(" + what + ")", x.wrong(what), -3);
        }
        int[] whats = {-1, 3, MIN, MAX};
        for (int what : whats) {
            due("wrong(" + what + ")", x.wrong(what), -2);
        }
        Check.formula(x, "A=");
        due("a FAULT", x.wrong(0), -3);
        Check.formula(x, "A=A");
        for (int what : whats) {
            due("wrong(" + what + ")", x.wrong(what), -2);
        }
        due("OTHER", x.count(12), 8);
        due("STATE", x.count(13), 4);
    }

    private static void sides() {
        S.says("Promise 30", "The POWER of a UNIT in the SUM ahead of the = (side 0), behind it (1), LACKS (2).");
        PureGroups x = mechanics();
        Check.quantity(x, 0, 0, 0, 0, 3, -4);
        Check.formula(x, "B^2*D+A=C/D^2-B");
        int[][] due = {{0, 2, -2, 3, -4}, {1, 0, 0, -6, 8}, {-1, 2, -2, 9, -12}};
        for (int side = 0; side <= 2; side++) {
            for (int unit = 0; unit <= 4; unit++) {
                due("sides(" + side + ", " + unit + ")", x.sides(side, unit), due[side][unit]);
            }
        }
        x.turn(3, 4);
        due("as now", x.sides(2, 3), 0);
        x.undo();
        due("as now", x.sides(2, 3), 9);
    }

    private static void sidesRefused() {
        S.says("Promise 30", "Refused far: -1; -2; -3 there is no FORMULA.");
        PureGroups x = mechanics();
        int[] units = {-1, 5, MIN, MAX};
        int[] sides = {-1, 3, MIN, MAX};
        for (int round = 0; round < 2; round++) {
            for (int unit : units) {
                due("sides(0, " + unit + ")", x.sides(0, unit), 1000000001);
                due("sides(3, " + unit + ")", x.sides(3, unit), 1000000001);
            }
            for (int side : sides) {
                due("sides(" + side + ", 0)", x.sides(side, 0), 1000000002);
                due("sides(" + side + ", 4)", x.sides(side, 4), 1000000002);
            }
            due("sides(2, 4)", x.sides(2, 4), round == 0 ? 1000000003 : 0);
            Check.formula(x, "A=A");
        }
        due("NOBODY", x.count(11), 16);
        due("OTHER", x.count(12), 16);
        due("STATE", x.count(13), 1);
    }

    private static void mend() {
        S.says("Promise 31", "MEND: how many (i -1), the i-th FACTOR; -9 none (there are not so many, too).");
        PureGroups x = mechanics();
        Object[][] due = {
            {"A=A", new int[] {}}, {"A=B", new int[] {0, 3}}, {"B=A", new int[] {1, 2}}, {"C*B^2=1", new int[] {2, 2, 4}},
            {"1=A", new int[] {1}}, {"A+C=B", new int[] {0, 3}}, {"s(A)=C", new int[] {5}}, {"A^3=1", new int[] {0, 0, 0}}};
        for (Object[] one : due) {
            int[] row = (int[]) one[1];
            Check.formula(x, (String) one[0]);
            due(one[0] + ", how many", x.mend(-1), row.length);
            for (int i = 0; i < 4; i++) {
                due(one[0] + ", " + i, x.mend(i), i < row.length ? row[i] : -9);
            }
            due(one[0] + ", greatest", x.mend(MAX), -9);
        }
        Check.formula(x, "A^4=1");
        due("four", x.mend(-1), -9);
        due("four", x.mend(0), -9);
        Check.formula(x, "A=B");
        x.turn(1, 0);
        due("as now", x.mend(-1), 0);
        x.turn(1, 3);
        // A has 1 of UNIT 1, B 1 - 2 of UNIT 1 and -1 of UNIT 2.
        due("as now", x.mend(-1), 2);
        due("as now", x.mend(0) * 10 + x.mend(1), 3);
    }

    private static void mendRefused() {
        S.says("Promise 31", "-4 i below -1; -3 there is no FORMULA.");
        PureGroups x = mechanics();
        due("mend(-2)", x.mend(-2), -4);
        due("mend(least)", x.mend(MIN), -4);
        due("mend(-1)", x.mend(-1), -3);
        due("mend(0)", x.mend(0), -3);
        due("mend(greatest)", x.mend(MAX), -3);
        Check.formula(x, "A=");
        due("a FAULT", x.mend(-1), -3);
        Check.formula(x, "A=A");
        due("mend(-2)", x.mend(-2), -4);
        due("mend(-1)", x.mend(-1), 0);
        due("BELOW", x.count(14), 3);
        due("STATE", x.count(13), 4);
    }

    private static void lots() {
        S.says("Promise 32", "LOTS: PURE ones (what 0), POWERS (1).");
        PureGroups none = new PureGroups();
        due("of none, one", none.lots(1, 9, 0), 1);
        due("of none, fifty", none.lots(50, 9, 0), 50);
        due("of none, POWERS", none.lots(50, 9, 1), 0);
        // The powers drawn from z 0 on: 1, 0, -1, 2, 2, -2, 2, 0. All of UNIT 0, D twice of UNIT 1, G -3 times of UNIT 2.
        int[] due = {1, 1, 0, 2 + 4, 4 + 4, 2 + 4, 4 + 4 + 6, 4 + 4 + 6};
        PureGroups x = new PureGroups();
        for (int q = 0; q < 8; q++) {
            Check.quantity(x, 0, 1, q == 3 ? 2 : 0, q == 6 ? -3 : 0);
            due("POWERS of " + (q + 1) + ", one", x.lots(1, 0, 1), due[q]);
            due("PURE of " + (q + 1) + ", one", x.lots(1, 0, 0), due[q] == 0 ? 1 : 0);
        }
        PureGroups two = new PureGroups();
        Check.quantity(two, 0, 9);
        Check.quantity(two, 0, 0, -9);
        // Four PRODUCTS of two: (1, 0), (-1, 2), (2, -2), (2, 0).
        int[] powers = {9, 36, 72, 90};
        for (int n = 1; n <= 4; n++) {
            due("POWERS of " + n, two.lots(n, 0, 1), powers[n - 1]);
            due("PURE of " + n, two.lots(n, 0, 0), 0);
        }
        two.turn(0, 4);
        due("PURE of 4 without UNIT 0", two.lots(4, 0, 0), 2);
        due("POWERS of 4 without UNIT 0", two.lots(4, 0, 1), 36);
    }

    private static void lotsRefused() {
        S.says("Promise 32", "-4 below 1; -6 50; -2.");
        PureGroups x = mechanics();
        int[] whats = {0, 1, 2, -1};
        for (int what : whats) {
            due("lots(0, 0, " + what + ")", x.lots(0, 0, what), -4);
            due("lots(-1, 0, " + what + ")", x.lots(-1, 0, what), -4);
            due("lots(51, 0, " + what + ")", x.lots(51, 0, what), -6);
        }
        due("least", x.lots(MIN, 0, 0), -4);
        due("greatest", x.lots(MAX, 0, 0), -6);
        due("lots(1, 0, 2)", x.lots(1, 0, 2), -2);
        due("lots(50, 0, -1)", x.lots(50, 0, -1), -2);
        due("lots(1, 0, 0)", x.lots(1, 0, 0) >= 0 ? 1 : 0, 1);
        due("lots(50, 0, 1)", x.lots(50, 0, 1) >= 0 ? 1 : 0, 1);
        due("BELOW", x.count(14), 9);
        due("ROOM", x.count(16), 5);
        due("OTHER", x.count(12), 2);
    }
}
