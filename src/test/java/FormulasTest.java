/** Promises 26 to 32: FACTORS, formulas, LOTS. */
public final class FormulasTest {
    private static final Check CHECK = new Check("FormulasTest");

    private static void due(String call, long got, long want) {
        CHECK.due(call, got, want);
    }

    public static void main(String[] args) {
        fewest();
        had();
        formulaGood();
        formulaFaults();
        formulaDepth();
        formulaKept();
        wrong();
        sides();
        mend();
        lots();
        CHECK.finish();
    }

    /** A a length, B a speed, C a mass. */
    private static PureGroups mechanics() {
        PureGroups x = new PureGroups();
        Check.quantity(x, 0, 0, 1, 0);
        Check.quantity(x, 1, 0, 1, 0);
        Check.quantity(x, 0, 1, 0, 0);
        return x;
    }

    private static void dueRow(String what, PureGroups x, int... row) {
        due("26: " + what + ", how many", x.fewest(0, -1), row.length);
        for (int i = 0; i < row.length; i++) {
            due("26: " + what + ", " + i, x.fewest(0, i), row[i]);
        }
        due("26: " + what + ", behind", x.fewest(0, row.length), -9);
        due("26: " + what + ", far behind", x.fewest(0, Integer.MAX_VALUE), -9);
    }

    private static void fewest() {
        PureGroups x = mechanics();
        due("26: missing", x.fewest(0, -2), -11);
        x.list(0, 0);
        dueRow("none", x);
        Check.list(x, 0, 0, 0, 1);
        dueRow("a time", x, 0, 3);
        Check.list(x, 0, 1, 2, -2, 0, 0, 500);
        dueRow("an energy", x, 2, 2, 4);
        Check.list(x, 0, -1);
        dueRow("by a mass", x, 5);
        Check.list(x, 0, 0, 3);
        dueRow("one more often", x, 0, 0, 0);
        Check.list(x, 0, 0, 4);
        due("26: four FACTORS", x.fewest(0, -1), -9);
        due("26: four FACTORS, 0", x.fewest(0, 0), -9);
        Check.list(x, 0, 0, 0, 0, 0, 1);
        due("26: another UNIT", x.fewest(0, -1), -9);
        due("26: -2", x.fewest(0, -2), -4);
        due("26: no LIST", x.fewest(3, -2), -1);
        due("26: LIST -1", x.fewest(-1, -2), -1);
        Check.list(x, 0, 0, 0, 0, 0, 100);
        due("26: 100", x.fewest(0, -2), -3);
        Check.list(x, 0, -100);
        due("26: -100", x.fewest(0, -1), -3);
        Check.list(x, 0, 99, -99);
        due("26: 99", x.fewest(0, -1), -9);
        due("26: count(11)", x.count(11), 2);
        due("26: count(13)", x.count(13), 2);
        due("26: count(14)", x.count(14), 1);
        PureGroups y = new PureGroups();
        Check.quantity(y, 5, 9, -9);
        Check.list(y, 0, 54, -60);
        dueRow("the greatest powers", y, 0, 0, 0);
    }

    private static void had() {
        PureGroups x = mechanics();
        int[] due = {1, 7, 25, 63};
        for (int n = 0; n < 4; n++) {
            due("27: had(" + n + ")", x.had(n), due[n]);
        }
        due("27: had(-1)", x.had(-1), -4);
        due("27: had(4)", x.had(4), -6);
        x.tell(1, 2, 1);
        int[] alike = {1, 5, 13, 25};
        for (int n = 0; n < 4; n++) {
            due("27: two alike, had(" + n + ")", x.had(n), alike[n]);
        }
        due("27: count(14)", x.count(14), 1);
        due("27: count(16)", x.count(16), 1);
        PureGroups y = new PureGroups();
        for (int q = 0; q < 8; q++) {
            Check.quantity(y, 0, q < 4 ? 1 << q : 0, q < 4 ? 0 : 1 << q - 4, q == 0 ? 1 : 0, q == 4 ? 1 : 0, q % 4 == 1 ? 5 : 0);
        }
        due("27: many", y.had(3) > 600 ? 1 : 0, 1);
    }

    private static void formulaGood() {
        PureGroups x = mechanics();
        Object[][] good = {
            {"A=A", 2}, {"1=2", 2}, {"999=000", 2}, {"A+B-C=1", 4}, {"A*B/C=A^2*B^-3", 2}, {"(A)=((B))", 5},
            {"s(A+1)=1", 4}, {"((((((A))))))=1", 8}, {"s(s(s(s(s(s(A))))))=1", 8}, {"(A)^2=s(B)^-0", 4}, {"12^9=A", 2},
            {"A=A-(B-C)", 5}, {"(A)*(B)=(A)/(B)", 6}
        };
        for (Object[] one : good) {
            due("28: " + one[0], Check.formula(x, (String) one[0]), (Integer) one[1]);
            due("28: letters are no more", x.count(1), 0);
            due("28: its TERMS", x.count(3), (Integer) one[1]);
        }
        StringBuilder longest = new StringBuilder("A=A");
        while (longest.length() < 69) {
            longest.append("*1");
        }
        longest.append("+A*");
        due("28: 72 letters, something lacks", Check.formula(x, longest.toString()), -1072);
        longest.setLength(69);
        longest.append("-12");
        due("28: 72 letters", Check.formula(x, longest.toString()), 3);
        due("29: the last TERM of 72 letters", x.wrong(0), 70);
        longest.setCharAt(70, 'A');
        longest.setCharAt(69, '*');
        longest.setCharAt(71, '1');
        due("28: a FAULT in the last place", Check.formula(x, longest.toString()), -1071);
        longest.setLength(69);
        longest.append("*12");
        due("28: 72 letters", Check.formula(x, longest.toString()), 2);
        due("29: none WRONG in 72 letters", x.wrong(0), -9);
    }

    private static void formulaFaults() {
        PureGroups x = mechanics();
        Object[][] bad = {
            {"", 0}, {"A", 1}, {"A=", 2}, {"=A", 0}, {"A==A", 2}, {"A=A=A", 3}, {"D=A", 0}, {"A=D", 2}, {"a=A", 0},
            {"1234=A", 3}, {"12A=A", 2}, {"AB=A", 1}, {"A2=A", 1}, {"A^=A", 2}, {"A^22=A", 3}, {"A^--2=A", 3},
            {"A^-=A", 3}, {"A^B=A", 2}, {"A^2^2=A", 3}, {"A^(2)=A", 2}, {"+A=A", 0}, {"-A=A", 0}, {"A+-A=A", 2},
            {"A**A=A", 2}, {"A+=A", 2}, {"A)=A", 1}, {"(A=A", 2}, {"()=A", 1}, {"(A", 2}, {"(", 1}, {"s", 1},
            {"sA=A", 1}, {"s=A", 1}, {"ss(A)=A", 1}, {"s()=A", 2}, {"s(A=A", 3}, {"A s=A", 1}, {"A=A ", 3}, {"A=A)", 3},
            {"A=(A", 4}, {"A=s(A", 5}, {"A=A+", 4}, {"A=A^", 4}, {"A=A^-", 5}, {"A(A)=A", 1}, {"(A)(A)=A", 3},
            {"A=1234", 5}, {"A\u0000=A", 1}, {"A=A\u00ff", 3}, {"[=A", 0}, {"@=A", 0}, {":=A", 0}, {"A=A^:", 4}
        };
        for (Object[] one : bad) {
            due("28: " + one[0], Check.formula(x, (String) one[0]), -1000 - (Integer) one[1]);
            due("28: letters are no more", x.count(1), 0);
        }
        int refused = 0;
        for (int code = 11; code <= 16; code++) {
            refused += x.count(code);
        }
        due("28: a FAULT isn't counted", refused, 0);
        due("28: no FORMULA yet", x.count(3), -9);
    }

    private static void formulaDepth() {
        PureGroups x = mechanics();
        due("28: seven", Check.formula(x, "(((((((A)))))))=1"), -1006);
        due("28: seven, behind", Check.formula(x, "1=((((((("), -1008);
        due("28: s is one of them", Check.formula(x, "s(s(s(((((A"), -1009);
        due("28: with s no FORMULA goes on", Check.formula(x, "((((((s(A)))))))=1"), -1006);
        due("28: one after the other", Check.formula(x, "((((((A))))))*((((((A))))))=1"), 14);
        due("28: closed ones don't count", Check.formula(x, "(((((s(A)*s(B))))))=1"), 1 + 5 + 2 + 1);
    }

    private static void formulaKept() {
        PureGroups x = mechanics();
        Check.formula(x, "A=B");
        due("28: a FAULT", Check.formula(x, "A=C+"), -1004);
        due("28: THE FORMULA stays", x.wrong(2), 3);
        due("28: its TERMS stay", x.count(3), 2);
        Check.say(x, "C");
        due("28: letters don't matter", x.wrong(2), 3);
        due("28: another", Check.formula(x, "=C*1"), 2);
        due("28: another", x.wrong(2), 4);
        due("28: QUANTITIES there are", Check.formula(x, "D=D"), -1000);
        x.quantity(0);
        due("28: QUANTITIES there are", Check.formula(x, "D=D"), 2);
    }

    private static void dueWrong(PureGroups x, String text, int first, int many) {
        Check.formula(x, text);
        due("29: first of " + text, x.wrong(0), first);
        due("29: many of " + text, x.wrong(1), many);
    }

    private static void wrong() {
        PureGroups x = mechanics();
        due("29: no FORMULA", x.wrong(0), -3);
        due("29: no FORMULA, no what", x.wrong(3), -2);
        dueWrong(x, "A=A", -9, 0);
        dueWrong(x, "A=B", 1, 1);
        dueWrong(x, "A+B=A", 2, 1);
        dueWrong(x, "A+B-C+2*A=B", 2, 3);
        dueWrong(x, "A+B+B=A", 2, 2);
        dueWrong(x, "(A+B)=A", 3, 1);
        dueWrong(x, "A+(B+C)=A", 2, 2);
        dueWrong(x, "A+s(B)=A", 2, 1);
        dueWrong(x, "1+s(B)=1", 2, 1);
        dueWrong(x, "1+s(B/B)=1", -9, 0);
        dueWrong(x, "s(s(A))=1", 2, 1);
        dueWrong(x, "s(A+B)=s(C)", 0, 3);
        dueWrong(x, "A^2/A=A", -9, 0);
        dueWrong(x, "(A*B)^-2*B^2*A^3=A", -9, 0);
        dueWrong(x, "s(B)^2+1=A^0", 0, 1);
        dueWrong(x, "A-A=A^-1*A*A+B*2", 13, 1);
        due("29: QUANTITIES", x.wrong(2), 3);
        Check.formula(x, "C=1");
        due("29: QUANTITIES", x.wrong(2), 4);
        due("29: as they are now", x.wrong(1), 1);
        x.turn(2, 4);
        due("29: as they are now", x.wrong(1), 0);
        due("29: what 3", x.wrong(3), -2);
        due("29: what -1", x.wrong(-1), -2);
        due("29: count(12)", x.count(12), 3);
        due("29: count(13)", x.count(13), 1);
    }

    private static void sides() {
        PureGroups x = mechanics();
        due("30: no FORMULA", x.sides(0, 0), 1000000003);
        due("30: no FORMULA, no side", x.sides(3, 0), 1000000002);
        due("30: no UNIT", x.sides(3, 5), 1000000001);
        due("30: UNIT -1", x.sides(3, -1), 1000000001);
        due("30: side -1", x.sides(-1, 4), 1000000002);
        Check.formula(x, "A^3*B^-2+C=C*(B*A)^2");
        int[][] due = {{0, 1, 2, 0, 0}, {1, 4, -2, 0, 0}, {-1, -3, 4, 0, 0}};
        for (int side = 0; side < 3; side++) {
            for (int unit = 0; unit < 5; unit++) {
                due("30: sides(" + side + ", " + unit + ")", x.sides(side, unit), due[side][unit]);
            }
        }
        x.tell(0, 4, 1);
        due("30: as they are now", x.sides(2, 4), 1);
        due("30: count(11)", x.count(11), 2);
        due("30: count(12)", x.count(12), 2);
        due("30: count(13)", x.count(13), 1);
        PureGroups y = new PureGroups();
        Check.quantity(y, 0, 9);
        due("30: powers of powers", Check.formula(y, "(((((A^9)^9)^9)^9)^9)^9*(((((A^9)^9)^9)^9)^9)^9=1"), 12);
        due("30: powers of powers", y.sides(0, 0), 2 * 4782969);
        String wide = "(((((A^9*A^9*A^9)^9)^9)^9)^9)^9*((((A^9*A^9*A^9)^9)^9)^9)^9=A^-1";
        Check.formula(y, wide);
        due("30: more of them", y.sides(0, 0), 3 * 81 * 6561 * 10);
        y.turn(0, 5);
        y.tell(0, 1, -9);
        StringBuilder most = new StringBuilder("((((((A");
        for (int i = 0; i < 9; i++) {
            most.append(i % 2 == 0 ? "*A^9" : "/A^-9");
        }
        most.append(")^9)^9)^9)^9)^9)^9=1");
        Check.formula(y, most.toString());
        due("30: the farthest", y.sides(2, 1), -20 * 82 * 531441);
    }

    private static void mend() {
        PureGroups x = mechanics();
        due("31: no FORMULA", x.mend(-1), -3);
        due("31: no FORMULA, -2", x.mend(-2), -4);
        Check.formula(x, "A=B");
        due("31: a time", x.mend(-1), 2);
        due("31: a time", x.mend(0), 0);
        due("31: a time", x.mend(1), 3);
        due("31: behind", x.mend(2), -9);
        due("31: -2", x.mend(-2), -4);
        Check.formula(x, "A=A");
        due("31: nothing LACKS", x.mend(-1), 0);
        due("31: nothing LACKS", x.mend(0), -9);
        Check.formula(x, "1=C^3");
        due("31: three", x.mend(-1), 3);
        due("31: three", x.mend(2), 5);
        Check.formula(x, "1=C^4");
        due("31: four", x.mend(-1), -9);
        due("31: four", x.mend(0), -9);
        due("31: a FAULT", Check.formula(x, "A="), -1002);
        due("31: after a FAULT", x.mend(-1), -9);
        x.turn(2, 4);
        due("31: as they are now", x.mend(-1), 0);
        // 1, 0 and 4096 as digits of one number must not look like another DIMENSION.
        PureGroups y = new PureGroups();
        Check.quantity(y, 0, 0, 1);
        Check.quantity(y, 0, 1);
        Check.formula(y, "(A^8)^8*(((A^8)^8)^8)^8=(A^8)^8");
        due("31: far", y.sides(2, 1), 4096);
        due("31: far", y.mend(-1), -9);
        due("31: count(13)", x.count(13), 1);
        due("31: count(14)", x.count(14), 2);
    }

    private static void lots() {
        PureGroups x = mechanics();
        due("32: 0", x.lots(0, 1, 2), -4);
        due("32: 51", x.lots(51, 1, 2), -6);
        due("32: what 2", x.lots(1, 1, 2), -2);
        due("32: what -1", x.lots(50, 1, -1), -2);
        for (int seed = -3; seed < 4; seed++) {
            for (int n = 1; n <= 50; n += 7) {
                int[] due = drawn(n, seed * 715827883);
                due("32: lots(" + n + ", .., 0)", x.lots(n, seed * 715827883, 0), due[0]);
                due("32: lots(" + n + ", .., 1)", x.lots(n, seed * 715827883, 1), due[1]);
            }
        }
        PureGroups y = new PureGroups();
        due("32: no QUANTITIES", y.lots(50, 3, 0), 50);
        due("32: no QUANTITIES", y.lots(50, 3, 1), 0);
        due("32: count(12)", x.count(12), 2);
        due("32: count(14)", x.count(14), 1);
        due("32: count(16)", x.count(16), 1);
    }

    /** For mechanics(): a of a length, b of a speed, c of a mass. */
    private static int[] drawn(int n, int seed) {
        int[] sums = new int[2];
        int z = seed;
        for (int i = 0; i < n; i++) {
            int[] p = new int[3];
            for (int q = 0; q < 3; q++) {
                z = z * 1664525 + 1013904223;
                p[q] = ((z & Integer.MAX_VALUE) >> 8) % 5 - 2;
            }
            sums[0] += p[0] == 0 && p[1] == 0 && p[2] == 0 ? 1 : 0;
            sums[1] += Math.abs(p[0] + p[1]) + Math.abs(p[1]) + Math.abs(p[2]);
        }
        return sums;
    }
}
