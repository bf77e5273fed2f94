/** Term 1, sentence by sentence: UNITS, DIMENSIONS, QUANTITIES, KINDS, PRODUCTS. */
public final class TermOneTest {
    private static final Sentences S = new Sentences("TermOneTest");
    private static final String TERM = "Term 1";
    private static final int FAR_NOBODY = 1000000001;
    private static final int FAR_OTHER = 1000000002;

    private static void due(String call, long got, long want) {
        S.due(call, got, want);
    }

    public static void main(String[] args) {
        units();
        pure();
        multiplied();
        numbers();
        whatItHas();
        toldPowers();
        plain();
        rate();
        slope();
        flow();
        count();
        square();
        product();
        hasOf();
        S.finish(TERM);
    }

    private static void units() {
        S.says(TERM, "UNITS are 0 .. 4.");
        PureGroups x = new PureGroups();
        x.quantity(0);
        for (int unit = 0; unit <= 4; unit++) {
            due("tell(0, " + unit + ", ..)", x.tell(0, unit, unit + 1), 0);
            due("TOLD of " + unit, x.of(0, 10 + unit), unit + 1);
            due("POWER of " + unit, x.of(0, 20 + unit), unit + 1);
        }
        due("tell() of UNIT -1", x.tell(0, -1, 1), FAR_NOBODY);
        due("tell() of UNIT 5", x.tell(0, 5, 1), FAR_NOBODY);
        due("TOLD of UNIT -1", x.of(0, 9), FAR_OTHER);
        due("TOLD of UNIT 5", x.of(0, 15), FAR_OTHER);
        due("POWER of UNIT -1", x.of(0, 19), FAR_OTHER);
        due("POWER of UNIT 5", x.of(0, 25), FAR_OTHER);
        Check.formula(x, "A=A^2");
        for (int unit = 0; unit <= 4; unit++) {
            due("sides(2, " + unit + ")", x.sides(2, unit), -1 - unit);
        }
        due("sides() of UNIT -1", x.sides(2, -1), FAR_NOBODY);
        due("sides() of UNIT 5", x.sides(2, 5), FAR_NOBODY);
    }

    private static void pure() {
        S.says(TERM, "A DIMENSION has a POWER (a whole number) of each UNIT; it is PURE, if all are 0.");
        PureGroups x = new PureGroups();
        x.quantity(0);
        due("all are 0", x.of(0, 2), 1);
        for (int unit = 0; unit <= 4; unit++) {
            x.tell(0, unit, 1);
            due("1 of UNIT " + unit, x.of(0, 2), 0);
            x.tell(0, unit, -1);
            due("-1 of UNIT " + unit, x.of(0, 2), 0);
            x.tell(0, unit, 0);
            due("0 of UNIT " + unit, x.of(0, 2), 1);
        }
        x.tell(0, 0, 3);
        x.tell(0, 4, -3);
        due("3 and -3", x.of(0, 2), 0);
    }

    private static void multiplied() {
        S.says(TERM, "DIMENSIONS multiplied add their POWERS, divided take them away, with a power n have each POWER times n.");
        PureGroups x = new PureGroups();
        Check.quantity(x, 0, 1, 2, 0, 0, -3);
        Check.quantity(x, 0, 4, 0, -5, 0, 0);
        dueSides(x, "A*B=A/B", new int[] {5, 2, -5, 0, -3}, new int[] {-3, 2, 5, 0, -3});
        dueSides(x, "A^3=B^-2", new int[] {3, 6, 0, 0, -9}, new int[] {-8, 0, 10, 0, 0});
        dueSides(x, "A^0=B^1", new int[] {0, 0, 0, 0, 0}, new int[] {4, 0, -5, 0, 0});
        dueSides(x, "A^9=B^-9", new int[] {9, 18, 0, 0, -27}, new int[] {-36, 0, 45, 0, 0});
        dueSides(x, "A/B/B=A/(B*B)", new int[] {-7, 2, 10, 0, -3}, new int[] {-7, 2, 10, 0, -3});
        dueSides(x, "A/B*B=(A/B)^-0*A", new int[] {1, 2, 0, 0, -3}, new int[] {1, 2, 0, 0, -3});
        dueSides(x, "A/B^-1=(A*B)^2", new int[] {5, 2, -5, 0, -3}, new int[] {10, 4, -10, 0, -6});
    }

    private static void dueSides(PureGroups x, String text, int[] ahead, int[] behind) {
        Check.formula(x, text);
        for (int unit = 0; unit <= 4; unit++) {
            due(text + " ahead, UNIT " + unit, x.sides(0, unit), ahead[unit]);
            due(text + " behind, UNIT " + unit, x.sides(1, unit), behind[unit]);
        }
    }

    private static void numbers() {
        S.says(TERM, "QUANTITIES have numbers, 0 .. as they come, 8 at most (letters A, B, .. H):");
        PureGroups x = new PureGroups();
        due("A, but none is there", Check.formula(x, "A=1"), -1000);
        for (int q = 0; q < 7; q++) {
            due("number " + q, x.quantity(q % 6), q);
        }
        due("G of seven", Check.formula(x, "G=1"), 2);
        due("H of seven", Check.formula(x, "H=1"), -1000);
        due("the eighth of seven", x.of(7, 0), FAR_NOBODY);
        due("the seventh of seven", x.of(6, 0), 0);
        due("number 7", x.quantity(5), 7);
        due("the ninth", x.quantity(5), -6);
        due("how many", x.count(0), 8);
        due("the eighth of eight", x.of(7, 0), 5);
        due("the ninth of eight", x.of(8, 0), FAR_NOBODY);
        due("number -1", x.of(-1, 0), FAR_NOBODY);
        for (int q = 0; q < 8; q++) {
            due("letter of " + q, Check.formula(x, (char) ('A' + q) + "=1"), 2);
            due("letter of " + q, x.wrong(2), 1 << q);
        }
        due("I of eight", Check.formula(x, "I=1"), -1000);
        due("the sign ahead of A", Check.formula(x, "@=1"), -1000);
        due("a small letter", Check.formula(x, "a=1"), -1000);
    }

    private static void whatItHas() {
        S.says(TERM, "a KIND, TOLD powers (of each UNIT, -9 .. 9; 0 at first), a SCALE (a fraction, or none: at first).");
        PureGroups x = new PureGroups();
        for (int kind = 0; kind <= 5; kind++) {
            x.quantity(kind);
            due("KIND", x.of(kind, 0), kind);
            for (int unit = 0; unit <= 4; unit++) {
                due("TOLD at first", x.of(kind, 10 + unit), 0);
            }
            due("no SCALE at first, above", x.scaled(kind, 0), -9);
            due("no SCALE at first, below", x.scaled(kind, 1), -9);
        }
        due("none has a SCALE", x.count(2), 0);
        x.scale(3, 3, 7);
        due("a fraction, above", x.scaled(3, 0), 3);
        due("a fraction, below", x.scaled(3, 1), 7);
        due("its own", x.count(2), 8);
    }

    private static void toldPowers() {
        for (int kind = 0; kind <= 5; kind++) {
            PureGroups x = new PureGroups();
            x.quantity(kind);
            int[] values = {8, 9, -8, -9, 0};
            for (int unit = 0; unit <= 4; unit++) {
                int was = 0;
                for (int v : values) {
                    due("tell(0, " + unit + ", " + v + ")", x.tell(0, unit, v), was);
                    due("TOLD of " + unit, x.of(0, 10 + unit), v);
                    was = v;
                }
                due("10 of UNIT " + unit, x.tell(0, unit, 10), 1000000006);
                due("-10 of UNIT " + unit, x.tell(0, unit, -10), 1000000004);
                due("as it was", x.of(0, 10 + unit), 0);
            }
        }
    }

    /** The POWERS of a KIND by what is TOLD: all the same of each UNIT. */
    private static void dueKind(int kind, int told, int... powers) {
        PureGroups x = new PureGroups();
        Check.quantity(x, kind, told, told, told, told, told);
        boolean pure = true;
        for (int unit = 0; unit <= 4; unit++) {
            due("TOLD " + told + ", UNIT " + unit, x.of(0, 20 + unit), powers[unit]);
            due("TOLD stays", x.of(0, 10 + unit), told);
            pure = pure && powers[unit] == 0;
        }
        due("TOLD " + told + ", PURE", x.of(0, 2), pure ? 1 : 0);
    }

    private static void dueUnder(int kind, int as, int due) {
        PureGroups x = new PureGroups();
        x.quantity(kind);
        due("taken(0, " + as + ")", x.taken(0, as), due);
    }

    private static void plain() {
        S.says(TERM, "Their DIMENSION by KIND: 0 PLAIN: as TOLD.");
        dueKind(0, 0, 0, 0, 0, 0, 0);
        dueKind(0, 9, 9, 9, 9, 9, 9);
        dueKind(0, -9, -9, -9, -9, -9, -9);
        dueUnder(0, 0, 0);
        dueUnder(0, 1, -16);
    }

    private static void rate() {
        S.says(TERM, "1 RATE under PLAIN: of UNIT 2 one less.");
        dueKind(1, 0, 0, 0, -1, 0, 0);
        dueKind(1, 9, 9, 9, 8, 9, 9);
        dueKind(1, -9, -9, -9, -10, -9, -9);
        PureGroups x = new PureGroups();
        Check.quantity(x, 1, 0, 0, 1);
        due("TOLD 1 of UNIT 2 alone: PURE", x.of(0, 2), 1);
        dueUnder(1, 0, 1);
        dueUnder(1, 1, 1);
        dueUnder(1, 2, -16);
        dueUnder(1, 3, -16);
    }

    private static void slope() {
        S.says(TERM, "2 SLOPE under PLAIN: of UNIT 1 one less.");
        dueKind(2, 0, 0, -1, 0, 0, 0);
        dueKind(2, 9, 9, 8, 9, 9, 9);
        dueKind(2, -9, -9, -10, -9, -9, -9);
        PureGroups x = new PureGroups();
        Check.quantity(x, 2, 0, 1);
        due("TOLD 1 of UNIT 1 alone: PURE", x.of(0, 2), 1);
        dueUnder(2, 0, 2);
        dueUnder(2, 2, 2);
        dueUnder(2, 1, -16);
        dueUnder(2, 5, -16);
    }

    private static void flow() {
        S.says(TERM, "3 FLOW under RATE: as a RATE's, and of UNIT 1 two less.");
        dueKind(3, 0, 0, -2, -1, 0, 0);
        dueKind(3, 9, 9, 7, 8, 9, 9);
        dueKind(3, -9, -9, -11, -10, -9, -9);
        PureGroups x = new PureGroups();
        Check.quantity(x, 3, 0, 2, 1);
        due("TOLD 2 of UNIT 1 and 1 of UNIT 2: PURE", x.of(0, 2), 1);
        dueUnder(3, 0, 3);
        dueUnder(3, 1, 3);
        dueUnder(3, 3, 3);
        dueUnder(3, 2, -16);
        dueUnder(3, 4, -16);
        dueUnder(3, 5, -16);
    }

    private static void count() {
        S.says(TERM, "4 COUNT under PLAIN: PURE, whatever is TOLD.");
        dueKind(4, 0, 0, 0, 0, 0, 0);
        dueKind(4, 9, 0, 0, 0, 0, 0);
        dueKind(4, -9, 0, 0, 0, 0, 0);
        dueUnder(4, 0, 4);
        dueUnder(4, 4, 4);
        dueUnder(4, 1, -16);
        dueUnder(4, 2, -16);
    }

    private static void square() {
        S.says(TERM, "5 SQUARE under SLOPE: each POWER twice a SLOPE's.");
        dueKind(5, 0, 0, -2, 0, 0, 0);
        dueKind(5, 9, 18, 16, 18, 18, 18);
        dueKind(5, -9, -18, -20, -18, -18, -18);
        PureGroups x = new PureGroups();
        Check.quantity(x, 5, 0, 1);
        due("TOLD 1 of UNIT 1 alone: PURE", x.of(0, 2), 1);
        dueUnder(5, 0, 5);
        dueUnder(5, 2, 5);
        dueUnder(5, 5, 5);
        dueUnder(5, 1, -16);
        dueUnder(5, 3, -16);
    }

    private static void product() {
        S.says(TERM, "A PRODUCT has a power (a whole number) of each QUANTITY there is; its DIMENSION is that of all these multiplied, each with its power.");
        PureGroups x = new PureGroups();
        x.list(0, 9);
        x.put(0, 0, 2);
        x.put(0, 1, -3);
        x.put(0, 6, 1);
        due("of no QUANTITY: PURE", x.pure(0), 1);
        Check.quantity(x, 0, 3, 0, 6);
        due("the first to the power 2", x.pure(0), 0);
        Check.quantity(x, 0, 2, 0, 4);
        due("A^2 B^-3", x.pure(0), 1);
        x.tell(1, 4, 1);
        due("another UNIT is left", x.pure(0), 0);
        x.tell(1, 4, 0);
        for (int q = 2; q < 6; q++) {
            Check.quantity(x, 0, q, q, q, q, q);
        }
        due("powers 0 of the others", x.pure(0), 1);
        Check.quantity(x, 0, 1);
        due("the seventh, too", x.pure(0), 0);
        Check.quantity(x, 0, 1);
        due("the eighth is not in it", x.pure(0), 0);
        x.put(0, 7, -1);
        due("the eighth makes it PURE", x.pure(0), 1);
        x.put(0, 8, 1);
        due("a ninth there isn't", x.pure(0), 1);
    }

    private static void hasOf() {
        S.says(TERM, "It HAS those QUANTITIES whose power isn't 0.");
        PureGroups x = new PureGroups();
        Check.quantity(x, 0, 1);
        Check.quantity(x, 0, 0, 1);
        Check.quantity(x, 0, -1);
        x.scale(0, 2, 1);
        x.scale(2, 3, 1);
        due("A C has no B, whose SCALE is missing", x.alike(), 0);
        x.tell(2, 1, 1);
        due("C / A B has B", x.alike(), -9);
        due("A, B: no PURE PRODUCT HAS only these", x.may(3), 1);
        x.tell(2, 1, 0);
        due("A C HAS only these", x.may(5), 0);
    }
}
