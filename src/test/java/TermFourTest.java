/** Term 4, sentence by sentence: FACTORS, THE FORMULA, LOTS, LISTS, what can be UNDONE, THE IMAGE. */
public final class TermFourTest {
    private static final Sentences S = new Sentences("TermFourTest");
    private static final String TERM = "Term 4";

    private static void due(String call, long got, long want) {
        S.due(call, got, want);
    }

    public static void main(String[] args) {
        factors();
        rowsOfFactors();
        fewest();
        had();
        lettersAtMost();
        sum();
        term();
        part();
        powerOfPart();
        atoms();
        digits();
        open();
        fault();
        faultLacking();
        theFormula();
        asNow();
        dimensions();
        farPowers();
        wrongPlaces();
        lacks();
        mend();
        lots();
        draws();
        lists();
        tells();
        toldNumbers();
        toldDimensions();
        undone();
        undoneTwenty();
        undoneNone();
        image();
        S.finish(TERM);
    }

    private static PureGroups of(int[]... told) {
        PureGroups x = new PureGroups();
        for (int[] one : told) {
            Check.quantity(x, 0, one);
        }
        return x;
    }

    private static int[] p(int... powers) {
        return powers;
    }

    private static String times(int n, String text) {
        return text.repeat(n);
    }

    // ---- FACTORS

    /** LIST 0 tells the DIMENSION. */
    private static void dueRow(PureGroups x, int[] dimension, int... row) {
        Check.list(x, 0, dimension);
        due("fewest(0, -1)", x.fewest(0, -1), row.length);
        for (int i = 0; i < row.length; i++) {
            due("fewest(0, " + i + ")", x.fewest(0, i), row[i]);
        }
        for (int i = row.length; i < 4; i++) {
            due("fewest(0, " + i + "), behind", x.fewest(0, i), -9);
        }
    }

    private static void dueNoRow(PureGroups x, int... dimension) {
        Check.list(x, 0, dimension);
        for (int i = -1; i < 4; i++) {
            due("fewest(0, " + i + "), none", x.fewest(0, i), -9);
        }
    }

    private static void factors() {
        S.says(TERM, "FACTORS are 0 .. twice QUANTITIES less 1: 2 q multiplies by QUANTITY q, 2 q plus 1 divides by it.");
        PureGroups x = new PureGroups();
        dueNoRow(x, 1);
        for (int q = 0; q < 8; q++) {
            int unit = q % 4;
            int power = q < 4 ? 1 : 9;
            int[] told = new int[5];
            told[unit] = power;
            Check.quantity(x, 0, told);
            dueRow(x, told, 2 * q);
            told[unit] = -power;
            dueRow(x, told, 2 * q + 1);
        }
    }

    private static void rowsOfFactors() {
        S.says(TERM, "A row of FACTORS has 0 .. 3 of them (one more often, too).");
        PureGroups x = of(p(2));
        dueRow(x, p(0));
        dueRow(x, p(2), 0);
        dueRow(x, p(4), 0, 0);
        dueRow(x, p(6), 0, 0, 0);
        dueNoRow(x, 8);
        dueRow(x, p(-2), 1);
        dueRow(x, p(-4), 1, 1);
        dueRow(x, p(-6), 1, 1, 1);
        dueNoRow(x, -8);
        dueNoRow(x, 1);
        dueRow(new PureGroups(), p(0, 0, 0, 0, 0, 7));
        dueNoRow(new PureGroups(), 0, 0, 0, 0, 1);
        int[] had = {1, 3, 5, 7};
        for (int n = 0; n <= 3; n++) {
            due("had(" + n + ")", x.had(n), had[n]);
        }
    }

    private static void fewest() {
        S.says(TERM, "FEWEST for a DIMENSION: the row of fewest FACTORS that together have just that DIMENSION;"
            + " of several the first (by its first FACTOR, the least first, then by the second, ..): how many; the i-th of them; -9 there is none.");
        // A B, B, A, A: the greater number alone is fewer; of two alike the least.
        PureGroups x = of(p(1, 1), p(0, 1), p(1, 0), p(1, 0));
        dueRow(x, p(1, 1), 0);
        dueRow(x, p(1, 0), 4);
        dueRow(x, p(-1, 0), 5);
        dueRow(x, p(2, 0), 4, 4);
        dueRow(x, p(1, -1), 3, 4);
        dueRow(x, p(-1, 1), 2, 5);
        dueRow(x, p(1, 2), 0, 2);
        dueRow(x, p(2, 1), 0, 4);
        dueRow(x, p(0, -2), 3, 3);
        dueRow(x, p(0, 0));
        dueRow(x, p(3, 3), 0, 0, 0);
        dueRow(x, p(1, 3), 0, 2, 2);
        dueRow(x, p(1, -2), 3, 3, 4);
        dueRow(x, p(2, -1), 3, 4, 4);
        dueNoRow(x, 4, 3);
        dueNoRow(x, 0, 0, 0, 0, 1);
        // A PURE one is no need; a row of two may begin with a greater FACTOR than one of three.
        PureGroups y = of(p(0), p(3), p(5), p(1));
        dueRow(y, p(0));
        dueRow(y, p(1), 6);
        dueRow(y, p(2), 2, 7);
        dueRow(y, p(-2), 2, 5);
        dueRow(y, p(7), 2, 2, 6);
        dueRow(y, p(9), 2, 2, 2);
        dueRow(y, p(15), 4, 4, 4);
        dueNoRow(y, 14);
        dueNoRow(y, 16);
        PureGroups far = new PureGroups();
        Check.quantity(far, 5, 9, -9, 9, -9, 9);
        dueRow(far, p(54, -60, 54, -54, 54), 0, 0, 0);
        dueRow(far, p(-54, 60, -54, 54, -54), 1, 1, 1);
        dueNoRow(far, 72, -80, 72, -72, 72);
        dueNoRow(far, 54, -60, 54, -54, 53);
    }

    private static void dueHad(PureGroups x, int... due) {
        for (int n = 0; n < 4; n++) {
            due("had(" + n + ")", x.had(n), due[n]);
        }
    }

    private static void had() {
        S.says(TERM, "HAD by n: how many different DIMENSIONS rows of n FACTORS or fewer have (by 0: 1).");
        dueHad(new PureGroups(), 1, 1, 1, 1);
        dueHad(of(p(0)), 1, 1, 1, 1);
        dueHad(of(p(1)), 1, 3, 5, 7);
        dueHad(of(p(1), p(-1)), 1, 3, 5, 7);
        // 0, 1, 2; up to 4; up to 6 of either sign.
        dueHad(of(p(1), p(2)), 1, 5, 9, 13);
        // 1, 9: 1, 2, 8, 9, 10, 18; 3, 7, 11, 17, 19, 27 more.
        dueHad(of(p(1), p(9)), 1, 5, 13, 25);
        dueHad(of(p(1), p(0, 1), p(0, 0, 1)), 1, 7, 25, 63);
        dueHad(of(p(1), p(0, 1), p(0, 0, 1), p(0, 0, 0, 1), p(0, 0, 0, 0, 1)), 1, 11, 61, 231);
        PureGroups eight = of(p(1), p(9), p(0, 1), p(0, 9), p(0, 0, 1), p(0, 0, 9), p(0, 0, 0, 1), p(0, 0, 0, 0, 1));
        dueHad(eight, 1, 17, 145, 833);
        due("had(-1)", eight.had(-1), -4);
        due("had(4)", eight.had(4), -6);
        dueHad(of(p(1), p(1), p(1), p(1), p(1), p(1), p(1), p(1)), 1, 3, 5, 7);
        PureGroups squares = new PureGroups();
        for (int q = 0; q < 8; q++) {
            Check.quantity(squares, 5, q < 4 ? 9 : -9, q % 2 == 0 ? -9 : 9, q < 2 ? 9 : -9, 9, -9);
        }
        due("far ones, had(1)", squares.had(1), 2 * 6 + 1);
    }

    // ---- what a FORMULA is

    private static void dueTerms(PureGroups x, String text, int terms) {
        due("formula() of " + text, Check.formula(x, text), terms);
    }

    private static void dueFault(PureGroups x, String text, int place) {
        due("formula() of " + text, Check.formula(x, text), -1000 - place);
    }

    private static PureGroups three() {
        return of(p(0, 1), p(0, 1, -1), p(1));
    }

    private static void lettersAtMost() {
        S.says(TERM, "A FORMULA is told in letters (72 at most), without blanks: SUM, =, SUM.");
        PureGroups x = three();
        int[] lengths = {70, 71, 72};
        for (int length : lengths) {
            String text = "A=A" + times((length - 3) / 2, "*1") + (length % 2 == 0 ? "0" : "");
            due("letters", Check.say(x, text), length);
            due("letters", x.count(1), length);
            due("formula() of " + length + " letters", x.formula(), 2);
            due("none is left", x.count(1), 0);
        }
        due("72 letters", Check.say(x, "A=A" + times(34, "*1") + "0"), 72);
        due("the 73rd", x.letter('0'), -6);
        due("the 73rd", x.letter('B'), -6);
        due("still 72", x.count(1), 72);
        due("they are read without them", x.formula(), 2);
        dueTerms(x, "A=B", 2);
        dueFault(x, " A=B", 0);
        dueFault(x, "A =B", 1);
        dueFault(x, "A= B", 2);
        dueFault(x, "A=B ", 3);
        dueFault(x, "A", 1);
        dueFault(x, "=A", 0);
        dueFault(x, "A=", 2);
        dueFault(x, "A=B=C", 3);
        dueFault(x, "A==B", 2);
    }

    private static void sum() {
        S.says(TERM, "SUM: TERM { + or - TERM }.");
        PureGroups x = three();
        dueTerms(x, "A+B=C", 3);
        dueTerms(x, "A-B=C", 3);
        dueTerms(x, "A+B-C+A-B=A-B+C", 8);
        String most = "A" + times(34, "+A") + "=A";
        dueTerms(x, most, 36);
        dueFault(x, "+A=B", 0);
        dueFault(x, "-A=B", 0);
        dueFault(x, "A+=B", 2);
        dueFault(x, "A-=B", 2);
        dueFault(x, "A++B=C", 2);
        dueFault(x, "A+-B=C", 2);
        dueFault(x, "A--B=C", 2);
        dueFault(x, "A=B+", 4);
        dueFault(x, "A=B-", 4);
    }

    private static void term() {
        S.says(TERM, "TERM: PART { * or / PART }.");
        PureGroups x = three();
        dueTerms(x, "A*B=C", 2);
        dueTerms(x, "A/B=C", 2);
        dueTerms(x, "A*B/C/A*B=C*A/B+A", 3);
        dueTerms(x, "A" + times(34, "/A") + "=A", 2);
        dueFault(x, "*A=B", 0);
        dueFault(x, "/A=B", 0);
        dueFault(x, "A*=B", 2);
        dueFault(x, "A/=B", 2);
        dueFault(x, "A**B=C", 2);
        dueFault(x, "A*/B=C", 2);
        dueFault(x, "A*+B=C", 2);
        dueFault(x, "A*-B=C", 2);
        dueFault(x, "AB=C", 1);
        dueFault(x, "A=B*", 4);
        dueFault(x, "A=B/", 4);
    }

    private static void part() {
        S.says(TERM, "PART: ATOM, or ATOM, ^ and a power: a digit, perhaps a - ahead of it.");
        PureGroups x = three();
        for (char digit = '0'; digit <= '9'; digit++) {
            dueTerms(x, "A^" + digit + "=B", 2);
            dueTerms(x, "A^-" + digit + "=B^-" + digit, 2);
        }
        dueFault(x, "A^/=B", 2);
        dueFault(x, "A^:=B", 2);
        dueFault(x, "A^=B", 2);
        dueFault(x, "A^A=B", 2);
        dueFault(x, "A^+1=B", 2);
        dueFault(x, "A^(1)=B", 2);
        dueFault(x, "A^-=B", 3);
        dueFault(x, "A^--1=B", 3);
        dueFault(x, "A^-A=B", 3);
        dueFault(x, "A^12=B", 3);
        dueFault(x, "A^-12=B", 4);
        dueFault(x, "A^1^1=B", 3);
        dueFault(x, "A^1A=B", 3);
        dueFault(x, "A^1(A)=B", 3);
        dueFault(x, "^1=B", 0);
        dueFault(x, "A=B^", 4);
        dueFault(x, "A=B^-", 5);
    }

    private static void powerOfPart() {
        PureGroups x = of(p(1));
        for (int power = 0; power <= 9; power++) {
            dueTerms(x, "A^" + power + "=A^-" + power, 2);
            due("A^" + power, x.sides(0, 0), power);
            due("A^-" + power, x.sides(1, 0), -power);
        }
        dueTerms(x, "1/A^3=1/A^-3", 2);
        due("divided by A^3", x.sides(0, 0), -3);
        due("divided by A^-3", x.sides(1, 0), 3);
        dueTerms(x, "12^3=(A)^2*s(1)^4", 4);
        due("of a number", x.sides(0, 0), 0);
        due("of (, of s", x.sides(1, 0), 2);
    }

    private static void atoms() {
        S.says(TERM, "ATOM: a letter of a QUANTITY there is;");
        PureGroups x = three();
        dueTerms(x, "A=C", 2);
        dueFault(x, "A=D", 2);
        dueFault(x, "@=A", 0);
        dueFault(x, "A=a", 2);
        x.quantity(0);
        dueTerms(x, "A=D", 2);
        dueFault(x, "A=E", 2);
        S.says(TERM, "(, SUM, );");
        dueTerms(x, "(A)=(B+C)", 5);
        dueTerms(x, "((A))=B", 4);
        dueFault(x, "()=A", 1);
        dueFault(x, "(A=B", 2);
        dueFault(x, "(A+B=C", 4);
        dueFault(x, "A)=B", 1);
        dueFault(x, "(A))=B", 3);
        dueFault(x, "(A)B=C", 3);
        dueFault(x, "A(B)=C", 1);
        dueFault(x, "(A)(B)=C", 3);
        dueFault(x, "(A=B)", 2);
        dueFault(x, "A=(B", 4);
        S.says(TERM, "s, (, SUM, ).");
        dueTerms(x, "s(A)=s(B+C)", 5);
        dueTerms(x, "s(s(A))=B", 4);
        dueTerms(x, "s((A))=B", 4);
        dueFault(x, "s=A", 1);
        dueFault(x, "sA=A", 1);
        dueFault(x, "s1=A", 1);
        dueFault(x, "ss(A)=A", 1);
        dueFault(x, "s^2(A)=A", 1);
        dueFault(x, "s()=A", 2);
        dueFault(x, "s(A=B", 3);
        dueFault(x, "As(B)=C", 1);
        dueFault(x, "S(A)=B", 0);
        dueFault(x, "r(A)=B", 0);
        dueFault(x, "A=s", 3);
        dueFault(x, "A=s(", 4);
        dueFault(x, "A=s(B", 5);
    }

    private static void digits() {
        S.says(TERM, "a number (1 to 3 digits, as many as stand there);");
        PureGroups x = three();
        dueTerms(x, "0=9", 2);
        dueTerms(x, "12=A", 2);
        dueTerms(x, "123=A", 2);
        dueFault(x, "1234=A", 3);
        dueFault(x, "12345=A", 3);
        dueTerms(x, "000=999", 2);
        dueFault(x, "0000=A", 3);
        dueTerms(x, "A=007", 2);
        dueFault(x, "A=0070", 5);
        dueFault(x, "A=12B", 4);
        dueFault(x, "A=123B", 5);
        dueFault(x, "A=1(B)", 3);
        dueFault(x, "A1=B", 1);
        dueFault(x, "A=B*1234+C", 7);
        dueTerms(x, "A=B*123+C^4", 3);
        dueTerms(x, "(999)=s(999)", 4);
        dueFault(x, "(9999)=A", 4);
        dueFault(x, "/=A", 0);
        dueFault(x, ":=A", 0);
        dueFault(x, "1.5=A", 1);
    }

    private static String nested(int open, String opening) {
        return times(open, opening) + "A" + times(open, ")");
    }

    private static void open() {
        S.says(TERM, "At most 6 ( are open at once (one more can't stand).");
        PureGroups x = three();
        dueTerms(x, nested(5, "(") + "=A", 7);
        dueTerms(x, nested(6, "(") + "=A", 8);
        dueFault(x, nested(7, "(") + "=A", 6);
        dueTerms(x, nested(5, "s(") + "=A", 7);
        dueTerms(x, nested(6, "s(") + "=A", 8);
        dueTerms(x, "A=" + nested(6, "("), 8);
        dueFault(x, "A=" + nested(7, "("), 8);
        dueTerms(x, nested(6, "(") + "*" + nested(6, "(") + "=" + nested(6, "("), 2 + 3 * 6);
        dueTerms(x, "(((" + nested(3, "s(") + ")))=A", 8);
        dueTerms(x, "s(s(s(" + nested(3, "(") + ")))=A", 8);
        dueFault(x, "s(s(s(" + nested(4, "(") + ")))=A", 9);
        dueFault(x, "((((((A+(B)))))))=A", 8);
        dueTerms(x, "(((((A+(B))))))=A", 9);
        dueTerms(x, "(((((A)+(B)+(C)))))=A", 11);
        dueFault(x, "(((((((", 6);
        dueFault(x, "((((((", 6);
        dueFault(x, "(((((((((", 6);
    }

    private static void fault() {
        S.says(TERM, "FAULT: the place (from 0) of the first letter with which no such FORMULA goes on");
        PureGroups x = three();
        dueFault(x, "?", 0);
        dueFault(x, "?=?", 0);
        dueFault(x, "A?", 1);
        dueFault(x, "A=?", 2);
        dueFault(x, "A=B?", 3);
        dueFault(x, "A=B+C*A^2-(B)?", 13);
        dueFault(x, "A=B\n", 3);
        dueFault(x, "\u0000", 0);
        dueFault(x, "A\u00ff", 1);
        dueFault(x, "A+\u0080", 2);
        dueFault(x, "A=B)", 3);
        dueFault(x, "A=B=", 3);
        dueFault(x, "D=D", 0);
        // the 72nd letter
        dueFault(x, "A=A" + times(34, "*1") + "B", 71);
        dueFault(x, "A=A" + times(34, "*1") + "=", 71);
        dueFault(x, "A=A" + times(33, "*1") + "**1", 70);
    }

    private static void faultLacking() {
        S.says(TERM, "(the number of letters, if something lacks): -1000 less it.");
        PureGroups x = three();
        dueFault(x, "", 0);
        dueFault(x, "A", 1);
        dueFault(x, "(", 1);
        dueFault(x, "s", 1);
        dueFault(x, "s(", 2);
        dueFault(x, "A=", 2);
        dueFault(x, "1", 1);
        dueFault(x, "123", 3);
        dueFault(x, "A^", 2);
        dueFault(x, "A^-", 3);
        dueFault(x, "A*", 2);
        dueFault(x, "(A)", 3);
        dueFault(x, "A=(B", 4);
        dueFault(x, "A=(B+C", 6);
        dueFault(x, "A=s(B*(C)", 9);
        dueFault(x, "A" + times(35, "+A"), 71);
    }

    // ---- THE FORMULA

    private static void theFormula() {
        S.says(TERM, "DIMENSIONS in THE FORMULA (the latest that was read without FAULT; none at first), as QUANTITIES are now:");
        PureGroups x = three();
        due("none at first", x.sides(0, 1), 1000000003);
        dueFault(x, "A=", 2);
        due("none after a FAULT", x.sides(0, 1), 1000000003);
        dueTerms(x, "A=B^2", 2);
        due("A", x.sides(0, 1), 1);
        due("B^2", x.sides(1, 2), -2);
        dueFault(x, "A^3=C^", 6);
        due("the latest without FAULT", x.sides(0, 1), 1);
        dueTerms(x, "A^3=C", 2);
        due("the latest", x.sides(0, 1), 3);
    }

    private static void asNow() {
        PureGroups x = three();
        dueTerms(x, "A*B=C", 2);
        x.tell(1, 3, 7);
        due("told anew", x.sides(0, 3), 7);
        x.turn(0, 5);
        due("turned", x.sides(0, 1), 0 + 1);
        x.undo();
        due("undone", x.sides(0, 1), 2);
        x.undo();
        due("undone", x.sides(0, 3), 0);
        x.image();
        x.tell(2, 4, -9);
        due("told", x.sides(2, 4), 9);
        x.on();
        due("as then", x.sides(2, 4), 0);
    }

    private static void dueSides(PureGroups x, String text, int ahead, int behind) {
        Check.formula(x, text);
        due(text + " ahead", x.sides(0, 0), ahead);
        due(text + " behind", x.sides(1, 0), behind);
    }

    private static void dimensions() {
        PureGroups x = of(p(1), p(3), p(0));
        S.says(TERM, "of a number, of s with its SUM: PURE;");
        dueSides(x, "1=999", 0, 0);
        dueSides(x, "s(A)=s(B+A)^9", 0, 0);
        dueSides(x, "12*A=A/s(B)", 1, 1);
        S.says(TERM, "of a SUM that of its first TERM;");
        dueSides(x, "A+B=B-A", 1, 3);
        dueSides(x, "(A+B)*A=(B-A)^2*(1+B)", 2, 6);
        dueSides(x, "C+B=1-B*B*B", 0, 0);
        S.says(TERM, "else as multiplied, divided, with a power");
        dueSides(x, "A*B=A/B", 4, -2);
        dueSides(x, "A^5=B^-5", 5, -15);
        dueSides(x, "(A*B)^2/B=A/(B/A)^-2", 5, 5);
        dueSides(x, "((A^2)^2)^2=((B^-2)^-2)^-2", 8, -24);
        dueSides(x, "(A)^0=A/A", 0, 0);
    }

    /** 72 letters and 6 ( open let no POWER reach where an int wraps: these are the farthest. */
    private static void farPowers() {
        S.says(TERM, "(POWERS there are ints, wrapping).");
        PureGroups x = new PureGroups();
        Check.quantity(x, 5, 9, -9);
        String most = "((((((A^9" + times(10, "*A^9") + "*A" + times(6, ")^9");
        dueTerms(x, most + "=A", 8);
        due("100 times 9 to the power 6, 18 each", x.sides(0, 0), 100 * 531441 * 18);
        due("100 times 9 to the power 6, -20 each", x.sides(0, 1), -1062882000);
        due("LACKS", x.sides(2, 1), -1062882000 + 20);
        dueTerms(x, "1=((((((A^-9/A^9/A^9)^9)^9)^9)^9)^9)^9", 8);
        due("-27 times 9 to the power 6, 18 each", x.sides(1, 0), -258280326);
        due("-27 times 9 to the power 6, -20 each", x.sides(1, 1), 286978140);
        dueTerms(x, "((((((A^9)^9)^9)^9)^9)^9)^9=((((((A^-9)^9)^9)^9)^9)^9)^9", 14);
        due("9 to the power 7", x.sides(0, 1), -95659380);
        due("with a -", x.sides(1, 1), 95659380);
        due("twice", x.sides(2, 1), -191318760);
        due("no row of FACTORS", x.mend(-1), -9);
    }

    private static void dueWrong(PureGroups x, String text, int first, int many) {
        Check.formula(x, text);
        due("wrong(0) of " + text, x.wrong(0), first);
        due("wrong(1) of " + text, x.wrong(1), many);
    }

    private static void wrongPlaces() {
        PureGroups x = three();
        S.says(TERM, "WRONG places: the first letter of each TERM but the first of a SUM whose DIMENSION isn't that of the first;");
        dueWrong(x, "A=A", -9, 0);
        dueWrong(x, "A+A-A=A", -9, 0);
        dueWrong(x, "A+B=A", 2, 1);
        dueWrong(x, "A+A*A=A", 2, 1);
        dueWrong(x, "A-12*B+A=A", 2, 1);
        dueWrong(x, "A+B+C+A=A", 2, 2);
        dueWrong(x, "A+B+B=A", 2, 2);
        dueWrong(x, "B+A+B=B", 2, 1);
        dueWrong(x, "A=A+B", 4, 1);
        dueWrong(x, "A=A+(B)", 4, 1);
        dueWrong(x, "A*(1+B)=A", 5, 1);
        dueWrong(x, "A*(B+1)/(B-C+B)=A*1", 5, 2);
        dueWrong(x, "A+(B+C)=A", 2, 2);
        S.says(TERM, "each s whose SUM isn't PURE;");
        dueWrong(x, "s(A)=1", 0, 1);
        dueWrong(x, "s(1)=s(A/A)", -9, 0);
        dueWrong(x, "s(1+A)=1", 4, 1);
        dueWrong(x, "s(A+1)=1", 0, 2);
        dueWrong(x, "A*s(A)*s(B)=A", 2, 2);
        dueWrong(x, "s(s(A))=1", 2, 1);
        dueWrong(x, "s(A*s(A))=1", 0, 2);
        S.says(TERM, "the =, if both SUMS' DIMENSIONS are unlike");
        dueWrong(x, "A=B", 1, 1);
        dueWrong(x, "A*B=B*A", -9, 0);
        dueWrong(x, "A=A*B/B*C^0", -9, 0);
        dueWrong(x, "1=C", 1, 1);
        dueWrong(x, "A+B=C+B", 2, 3);
        dueWrong(x, "s(A)=C", 0, 2);
        S.says(TERM, "(a place is one place, however often it is WRONG).");
        dueWrong(x, "A+s(B)=A", 2, 1);
        dueWrong(x, "A+s(B+C)=A", 2, 2);
        dueWrong(x, "1+s(A)=1", 2, 1);
        dueWrong(x, "A-s(A)-s(B)=A", 2, 2);
        String most = "1" + times(34, "+A") + "=1";
        dueWrong(x, most, 2, 34);
        dueWrong(x, "A" + times(34, "+A") + "=A", -9, 0);
    }

    private static void lacks() {
        S.says(TERM, "LACKS: of a UNIT its POWER in the SUM ahead of the = less that in the one behind (an int, wrapping).");
        PureGroups x = of(p(1, 2, 3, 4, 5), p(-5, 4, 0, -2, 1));
        Check.formula(x, "A=B");
        int[] due = {6, -2, 3, 6, 4};
        for (int unit = 0; unit < 5; unit++) {
            due("sides(2, " + unit + ")", x.sides(2, unit), due[unit]);
        }
        Check.formula(x, "B+A=A-B");
        for (int unit = 0; unit < 5; unit++) {
            due("sides(2, " + unit + ")", x.sides(2, unit), -due[unit]);
        }
        Check.formula(x, "A*B=B*A");
        for (int unit = 0; unit < 5; unit++) {
            due("nothing of UNIT " + unit, x.sides(2, unit), 0);
        }
    }

    private static void mend() {
        S.says(TERM, "MEND: the row of FACTORS that is FEWEST for the DIMENSION that LACKS.");
        PureGroups x = of(p(1), p(0, 1), p(1, 1));
        String[] texts = {"A=A", "A=1", "1=A", "C=1", "C^2=1", "A=B", "B=A", "C^3=1", "1=C^3", "A^3*B^3=1", "C=C", "s(A)=B"};
        int[][] rows = {{}, {0}, {1}, {4}, {4, 4}, {0, 3}, {1, 2}, {4, 4, 4}, {5, 5, 5}, {4, 4, 4}, {}, {3}};
        for (int i = 0; i < texts.length; i++) {
            Check.formula(x, texts[i]);
            due(texts[i] + ", mend(-1)", x.mend(-1), rows[i].length);
            for (int k = 0; k < 4; k++) {
                due(texts[i] + ", mend(" + k + ")", x.mend(k), k < rows[i].length ? rows[i][k] : -9);
            }
        }
        Check.formula(x, "C^4=1");
        due("four FACTORS", x.mend(-1), -9);
        Check.formula(x, "A^3=B");
        due("four FACTORS", x.mend(0), -9);
        // LACKS of more than 99 is no LIST's, but no row reaches it either.
        Check.formula(x, "(A^9)^9*A^9*A^9=1");
        due("99", x.sides(2, 0), 99);
        due("99", x.mend(-1), -9);
        Check.formula(x, "(A^9)^9*A^9*A^9*A=1");
        due("100", x.mend(-1), -9);
        PureGroups none = new PureGroups();
        Check.formula(none, "1=2");
        due("no QUANTITIES, nothing LACKS", none.mend(-1), 0);
    }

    // ---- LOTS

    private static int drawn(long z, int m) {
        return (int) ((z & 0x7fffffffL) / 256 % m);
    }

    private static long next(long z) {
        return (z * 1664525L + 1013904223L) % 4294967296L;
    }

    /** By longs from 0 to 2^32, an int's bits: the powers of UNIT 0 of the QUANTITIES are told. */
    private static long[] lotsOf(int n, int seed, int... told) {
        long z = Integer.toUnsignedLong(seed);
        long[] due = new long[2];
        for (int lot = 0; lot < n; lot++) {
            long sum = 0;
            for (int one : told) {
                z = next(z);
                sum += (drawn(z, 5) - 2L) * one;
            }
            due[0] += sum == 0 ? 1 : 0;
            due[1] += Math.abs(sum);
        }
        return due;
    }

    private static void lots() {
        S.says(TERM, "LOTS with a seed z: n PRODUCTS (1 .. 50): the power of each QUANTITY, by numbers, a DRAW below 5, less 2:"
            + " how many were PURE; all POWERS of their DIMENSIONS, without signs, together.");
        int[][] told = {{}, {1}, {9}, {1, -1}, {3, 0, -2}, {1, 2, 3, 4, 5, 6, 7, 8}, {9, 9, 9, 9, 9, 9, 9, 9}};
        int[] sizes = {1, 2, 3, 49, 50};
        int[] seeds = {0, 1, 5, -1, 255, 256, Integer.MAX_VALUE, Integer.MIN_VALUE, 1013904223, -1013904223};
        for (int[] one : told) {
            PureGroups x = new PureGroups();
            for (int power : one) {
                Check.quantity(x, 0, power);
            }
            for (int n : sizes) {
                for (int seed : seeds) {
                    long[] due = lotsOf(n, seed, one);
                    due("lots(" + n + ", " + seed + ", 0)", x.lots(n, seed, 0), due[0]);
                    due("lots(" + n + ", " + seed + ", 1)", x.lots(n, seed, 1), due[1]);
                }
            }
            due("lots(0, ..)", x.lots(0, 1, 0), -4);
            due("lots(51, ..)", x.lots(51, 1, 0), -6);
        }
        PureGroups counts = new PureGroups();
        for (int q = 0; q < 8; q++) {
            counts.quantity(4);
        }
        due("all of COUNTS are PURE", counts.lots(50, 77, 0), 50);
        due("no POWERS of COUNTS", counts.lots(50, 77, 1), 0);
    }

    private static void draws() {
        S.says(TERM, "A DRAW below m: z becomes z times 1664525, plus 1013904223 (an int); (z without its sign's bit divided by 256, cut) modulo m.");
        PureGroups x = of(p(1));
        // z 0: 1013904223, by 256 3960563, modulo 5 it is 3: power 1.
        due("lots(1, 0, 1)", x.lots(1, 0, 1), 1);
        due("lots(1, 0, 0)", x.lots(1, 0, 0), 0);
        // z -1: 1012239698, by 256 3954061, modulo 5 it is 1: power -1.
        due("lots(1, -1, 1)", x.lots(1, -1, 1), 1);
        // z 2: 1017233273, by 256 3973567, modulo 5 it is 2: PURE.
        due("lots(1, 2, 0)", x.lots(1, 2, 0), 1);
        due("lots(1, 2, 1)", x.lots(1, 2, 1), 0);
        // z 1000: 2678429223 is -1616538073 as an int, without its sign's bit 530945575, by 256 2074006: 1, power -1.
        due("lots(1, 1000, 1)", x.lots(1, 1000, 1), 1);
        // z -1000: -650620777, without its sign's bit 1496862871, by 256 5847120: 0, power -2.
        due("lots(1, -1000, 1)", x.lots(1, -1000, 1), 2);
        // z 0 twice: 1013904223, then 1196435762, by 256 4673577: 2, power 0.
        due("lots(2, 0, 0)", x.lots(2, 0, 0), 1);
        due("lots(2, 0, 1)", x.lots(2, 0, 1), 1);
    }

    // ---- LISTS

    private static void lists() {
        S.says(TERM, "LISTS 0 .. 2 are rows of ints (40 at most), missing at first.");
        PureGroups x = new PureGroups();
        for (int list = 0; list <= 2; list++) {
            due("missing at first", x.look(list, 0), 1000000011);
        }
        int[] good = {0, 1, 39, 40};
        for (int n : good) {
            for (int list = 0; list <= 2; list++) {
                due("list(" + list + ", " + n + ")", x.list(list, n), 1);
                due("its last", x.put(list, n - 1, Integer.MIN_VALUE + list), n == 0 ? -13 : 1);
                due("behind", x.put(list, n, 1), -13);
                due("its last", x.look(list, n - 1), n == 0 ? 1000000013 : Integer.MIN_VALUE + list);
                due("behind", x.look(list, n), 1000000013);
            }
        }
        due("41", x.list(0, 41), -6);
        due("still 40", x.look(0, 39), Integer.MIN_VALUE);
        due("LIST 3", x.list(3, 1), -1);
        due("LIST -1", x.list(-1, 1), -1);
    }

    private static void tells() {
        S.says(TERM, "A LIST tells a PRODUCT by its first numbers (of QUANTITIES 0, 1, ..; 0 where it has no such; what is behind doesn't matter),"
            + " a DIMENSION by its first five likewise.");
        PureGroups x = of(p(1), p(-1), p(0, 1));
        x.list(0, 0);
        due("none: all 0", x.pure(0), 1);
        Check.list(x, 0, 1);
        due("A alone", x.pure(0), 0);
        Check.list(x, 0, 1, 1);
        due("A B", x.pure(0), 1);
        Check.list(x, 0, 1, 1, 1);
        due("A B C", x.pure(0), 0);
        Check.list(x, 0, 1, 1, 0, 100, Integer.MIN_VALUE);
        due("what is behind", x.pure(0), 1);
        Check.list(x, 0, 0, 0, 0, 1);
        due("a fourth QUANTITY isn't there", x.pure(0), 1);
        x.list(1, 0);
        due("no numbers: PURE", x.fewest(1, -1), 0);
        Check.list(x, 1, 0, 1);
        due("two numbers", x.fewest(1, 0), 4);
        Check.list(x, 1, 0, 1, 0, 0, 0);
        due("five numbers", x.fewest(1, 0), 4);
        Check.list(x, 1, 0, 1, 0, 0, 0, 100, Integer.MIN_VALUE);
        due("what is behind", x.fewest(1, 0), 4);
        Check.list(x, 1, 0, 1, 0, 0, 1);
        due("the fifth matters", x.fewest(1, 0), -9);
        x.list(2, 40);
        due("all 40", x.pure(2), 1);
    }

    private static void toldNumbers() {
        S.says(TERM, "Numbers that are told so must be -99 .. 99.");
        for (int n = 1; n <= 8; n++) {
            PureGroups x = new PureGroups();
            for (int q = 0; q < n; q++) {
                x.quantity(4);
            }
            x.list(0, 9);
            int[] values = {98, 99, 100, -98, -99, -100, Integer.MAX_VALUE, Integer.MIN_VALUE};
            for (int v : values) {
                boolean good = v >= -99 && v <= 99;
                x.put(0, n - 1, v);
                due("pure() of " + v + " at " + (n - 1), x.pure(0), good ? 1 : -3);
                due("cover() of " + v, x.cover(0, n - 1, 0), good ? v : 4000000000000000003L);
            }
            x.put(0, n - 1, 0);
            x.put(0, n, 100);
            due("pure() of 100 behind", x.pure(0), 1);
        }
        PureGroups y = new PureGroups();
        for (int i = 0; i < 6; i++) {
            y.list(0, 6);
            int[] values = {98, 99, 100, -98, -99, -100, Integer.MAX_VALUE, Integer.MIN_VALUE};
            for (int v : values) {
                y.put(0, i, v);
                int due = i == 5 ? 0 : v >= -99 && v <= 99 ? -9 : -3;
                due("fewest() of " + v + " at " + i, y.fewest(0, -1), due);
            }
        }
    }

    private static void toldDimensions() {
        S.says(TERM, "TOLD DIMENSIONS: a LIST tells POWERS of UNITS 0 .. 4 of QUANTITY 0, then those of 1, and so on:"
            + " the first place that is otherwise (one of a QUANTITY that isn't there, too); -9.");
        PureGroups x = new PureGroups();
        x.list(0, 40);
        due("none is there", x.judge(0), 0);
        for (int q = 0; q < 8; q++) {
            x.quantity(0);
            due(q + 1 + " are there", x.judge(0), q < 7 ? 5 * (q + 1) : -9);
        }
        for (int i = 39; i >= 0; i--) {
            x.put(0, i, i % 2 == 0 ? 1 : -1);
            due("otherwise from " + i, x.judge(0), i);
        }
        for (int i = 0; i < 40; i++) {
            x.tell(i / 5, i % 5, i % 2 == 0 ? 1 : -1);
            due("as told up to " + i, x.judge(0), i < 39 ? i + 1 : -9);
        }
        x.list(1, 0);
        due("no numbers", x.judge(1), -9);
        Check.list(x, 1, 1, -1, 1);
        due("fewer", x.judge(1), -9);
        Check.list(x, 1, 1, -1, 1, -1, 1, -1);
        due("fewer", x.judge(1), -9);
        x.turn(0, 5);
        due("of a SQUARE", x.judge(1), 0);
        Check.list(x, 1, 2, -4, 2, -2, 2);
        due("of a SQUARE", x.judge(1), -9);
        Check.list(x, 1, 2, -4, 2, -2, 1000);
        due("a number that may be, but isn't", x.judge(1), 4);
    }

    // ---- what can be UNDONE, THE IMAGE

    private static void undone() {
        S.says(TERM, "What tell(), turn(), scale() changed can be UNDONE (each that isn't refused counts, also if all stays as it was), the latest first,");
        PureGroups x = of(p(3));
        due("one tell()", x.count(4), 1);
        x.tell(0, 0, 3);
        due("all stays", x.count(4), 2);
        x.turn(0, 0);
        due("all stays", x.count(4), 3);
        x.scale(0, 0, 7);
        due("all stays", x.count(4), 4);
        x.scale(0, 3, 2);
        x.scale(0, 3, 2);
        x.turn(0, 4);
        x.tell(0, 4, -9);
        due("eight", x.count(4), 8);
        x.tell(0, 4, 10);
        x.tell(0, 4, -10);
        x.tell(1, 4, 0);
        x.tell(0, 5, 0);
        x.turn(0, 6);
        x.turn(1, 0);
        x.scale(0, 100, 1);
        x.scale(0, 1, 0);
        x.scale(1, 1, 1);
        due("refused ones don't count", x.count(4), 8);
        due("of tell()", x.undo(), 7);
        due("TOLD", x.of(0, 14), 0);
        due("of turn()", x.undo(), 6);
        due("KIND", x.of(0, 0), 0);
        due("of scale()", x.undo(), 5);
        due("all stayed", x.scaled(0, 0) * 10 + x.scaled(0, 1), 32);
        due("of scale()", x.undo(), 4);
        due("none", x.scaled(0, 0), -9);
        due("of scale()", x.undo(), 3);
        due("of turn()", x.undo(), 2);
        due("of tell()", x.undo(), 1);
        due("still told", x.of(0, 20), 3);
        due("of the first", x.undo(), 0);
        due("nothing told", x.of(0, 20), 0);
        due("none is left", x.undo(), -3);
    }

    private static void undoneTwenty() {
        S.says(TERM, "20 at most (older ones no more);");
        int[] changes = {19, 20, 21, 40, 41};
        for (int n : changes) {
            PureGroups x = new PureGroups();
            x.quantity(0);
            for (int i = 1; i <= n; i++) {
                x.scale(0, i, 1);
                due("change " + i, x.count(4), Math.min(i, 20));
            }
            int left = Math.min(n, 20);
            for (int i = 1; i <= left; i++) {
                due("undo()", x.undo(), left - i);
                due("as it was", x.scaled(0, 0), n == i ? -9 : n - i);
            }
            due("no more", x.undo(), -3);
            due("no more", x.scaled(0, 0), n <= 20 ? -9 : n - 20);
        }
        PureGroups y = new PureGroups();
        y.quantity(0);
        for (int round = 0; round < 15; round++) {
            y.tell(0, 0, round % 9 + 1);
            y.tell(0, 1, round % 9 + 1);
            due("one of two", y.undo(), round + 1);
        }
        due("fifteen", y.count(4), 15);
    }

    private static void undoneNone() {
        S.says(TERM, "quantity(), ON leave none.");
        PureGroups x = of(p(1));
        due("one", x.count(4), 1);
        x.quantity(6);
        due("refused", x.count(4), 1);
        x.on();
        due("refused", x.count(4), 1);
        x.quantity(0);
        due("quantity()", x.count(4), 0);
        due("quantity()", x.undo(), -3);
        due("it stays", x.of(0, 10), 1);
        x.tell(0, 0, 2);
        x.image();
        due("image() leaves it", x.count(4), 1);
        x.on();
        due("ON", x.count(4), 0);
        due("ON", x.undo(), -3);
        due("it stays", x.of(0, 10), 2);
        for (int q = 2; q < 8; q++) {
            x.quantity(0);
        }
        x.tell(7, 0, 1);
        x.quantity(0);
        due("no room: refused", x.count(4), 1);
    }

    private static void image() {
        S.says(TERM, "THE IMAGE: QUANTITIES with all that is theirs, THE FORMULA; ON from it these are as then (letters, LISTS stay).");
        PureGroups x = new PureGroups();
        int[] told = {1, -2, 3, -4, 5};
        Check.quantity(x, 3, told);
        x.scale(0, 10, 4);
        x.quantity(5);
        Check.formula(x, "A+B=A");
        x.image();
        x.turn(0, 0);
        x.scale(0, 0, 0);
        x.scale(1, 1, 1);
        for (int unit = 0; unit < 5; unit++) {
            x.tell(0, unit, 0);
        }
        x.quantity(2);
        Check.formula(x, "C=1");
        Check.say(x, "A=");
        Check.list(x, 2, 7, 8);
        due("two as then", x.on(), 2);
        due("KIND", x.of(0, 0), 3);
        for (int unit = 0; unit < 5; unit++) {
            due("TOLD of " + unit, x.of(0, 10 + unit), told[unit]);
        }
        due("SCALE", x.scaled(0, 0) * 10 + x.scaled(0, 1), 52);
        due("no SCALE", x.scaled(1, 0), -9);
        due("THE FORMULA", x.wrong(2), 3);
        due("its TERMS", x.count(3), 3);
        due("letters stay", x.count(1), 2);
        due("C isn't there", Check.formula(x, "C"), -1002);
        due("LISTS stay", x.look(2, 1), 8);
    }
}
