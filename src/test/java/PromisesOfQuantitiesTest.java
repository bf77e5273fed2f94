/** Promises 1 to 8, sentence by sentence, and what the document says of an object and its face. */
public final class PromisesOfQuantitiesTest {
    private static final Sentences S = new Sentences("PromisesOfQuantitiesTest");

    private static void due(String call, long got, long want) {
        S.due(call, got, want);
    }

    public static void main(String[] args) throws ReflectiveOperationException {
        calls();
        newObject();
        letterComes();
        letterRefused();
        quantityMore();
        quantityRefused();
        tell();
        tellRefused();
        turn();
        turnRefused();
        of();
        ofRefused();
        twin();
        taken();
        takenRefused();
        S.finish("Promise 1", "Promise 2", "Promise 3", "Promise 4", "Promise 5", "Promise 6", "Promise 7", "Promise 8");
    }

    private static void calls() {
        S.says("What it is", "An object is used for at most 512 calls after it has been made; what later calls answer is free.");
        PureGroups x = new PureGroups();
        for (int call = 1; call <= 512; call++) {
            if (call % 2 == 1) {
                due("call " + call, x.letter(-call), -4);
            } else {
                due("call " + call, x.count(14), call / 2);
            }
        }
        PureGroups y = new PureGroups();
        y.quantity(0);
        for (int call = 2; call <= 512; call++) {
            due("call " + call, y.tell(0, 0, call % 10), call == 2 ? 0 : (call - 1) % 10);
        }
        PureGroups one = new PureGroups();
        PureGroups other = new PureGroups();
        one.quantity(3);
        due("each object is its own", other.count(0), 0);
        due("each object is its own", one.count(0), 1);
    }

    private static void newObject() {
        S.says("Promise 1", "No QUANTITIES, no FORMULA.");
        PureGroups x = new PureGroups();
        due("QUANTITIES", x.count(0), 0);
        due("the first", x.of(0, 0), 1000000001);
        due("RANK", x.rank(0), 0);
        due("GROUPS", x.rank(1), 0);
        due("LOOSE ones", x.rank(2), 0);
        due("different DIMENSIONS", x.rank(3), 0);
        due("the empty set", x.may(0), 1);
        due("bits of no QUANTITY", x.may(1), -1);
        due("RESTS", x.sizes(0), 0);
        due("ALIKE", x.alike(), -9);
        due("OFF", x.off(0), 0);
        due("TERMS", x.count(3), -9);
        due("WRONG", x.wrong(0), -3);
        due("sides", x.sides(0, 0), 1000000003);
        due("MEND", x.mend(-1), -3);
        due("no letters", x.count(1), 0);
        due("no letters", x.formula(), -1000);
        due("the first number", x.quantity(0), 0);
    }

    private static void letterComes() {
        S.says("Promise 2", "A letter (0 .. 255) comes: how many there are.");
        PureGroups x = new PureGroups();
        due("letter(0)", x.letter(0), 1);
        due("letter(1)", x.letter(1), 2);
        due("letter(254)", x.letter(254), 3);
        due("letter(255)", x.letter(255), 4);
        for (int i = 5; i <= 72; i++) {
            due("letter " + i, x.letter(i), i);
        }
        due("how many", x.count(1), 72);
        due("read from the first", x.formula(), -1000);
        due("again from one", x.letter('A'), 1);
    }

    private static void letterRefused() {
        S.says("Promise 2", "-4; -6 (255; 72, too).");
        PureGroups x = new PureGroups();
        due("letter(-1)", x.letter(-1), -4);
        due("letter(least)", x.letter(Integer.MIN_VALUE), -4);
        due("letter(256)", x.letter(256), -6);
        due("letter(greatest)", x.letter(Integer.MAX_VALUE), -6);
        due("none came", x.count(1), 0);
        for (int i = 1; i <= 71; i++) {
            x.letter('1');
        }
        due("letter(256) of 71", x.letter(256), -6);
        due("letter(255) of 71", x.letter(255), 72);
        due("letter(255) of 72", x.letter(255), -6);
        due("letter(-1) of 72", x.letter(-1), -4);
        due("BELOW", x.count(14), 3);
        due("ROOM", x.count(16), 4);
        x.formula();
        due("room again", x.letter(255), 1);
    }

    private static void quantityMore() {
        S.says("Promise 3", "A QUANTITY of a KIND more: its number.");
        PureGroups x = new PureGroups();
        for (int q = 0; q < 8; q++) {
            due("quantity()", x.quantity(5 - q % 6), q);
            due("KIND", x.of(q, 0), 5 - q % 6);
            due("how many", x.count(0), q + 1);
        }
        PureGroups y = new PureGroups();
        y.quantity(0);
        y.image();
        Check.quantity(y, 1, 1, 2, 3, 4, 5);
        y.scale(1, 2, 3);
        y.on();
        due("after ON the number is free", y.quantity(2), 1);
        due("nothing is TOLD", y.of(1, 14), 0);
        due("no SCALE", y.scaled(1, 0), -9);
        due("its KIND", y.of(1, 0), 2);
    }

    private static void quantityRefused() {
        S.says("Promise 3", "-2; -6 8.");
        PureGroups x = new PureGroups();
        due("quantity(-1)", x.quantity(-1), -2);
        due("quantity(6)", x.quantity(6), -2);
        for (int q = 0; q < 7; q++) {
            x.quantity(0);
        }
        due("quantity(6) of seven", x.quantity(6), -2);
        due("quantity(5) of seven", x.quantity(5), 7);
        due("quantity(5) of eight", x.quantity(5), -6);
        due("quantity(6) of eight", x.quantity(6), -2);
        due("quantity(least) of eight", x.quantity(Integer.MIN_VALUE), -2);
        due("how many", x.count(0), 8);
        due("OTHER", x.count(12), 5);
        due("ROOM", x.count(16), 1);
    }

    private static void tell() {
        S.says("Promise 4", "TOLD power of a UNIT becomes v: what it was.");
        PureGroups x = new PureGroups();
        x.quantity(0);
        x.quantity(5);
        due("at first", x.tell(1, 0, -9), 0);
        due("then", x.tell(1, 0, 9), -9);
        due("then", x.tell(1, 0, 9), 9);
        due("then", x.tell(1, 0, 0), 9);
        due("then", x.tell(1, 0, 1), 0);
        due("of another UNIT", x.tell(1, 4, 2), 0);
        due("of another QUANTITY", x.tell(0, 0, 3), 0);
        due("TOLD", x.of(1, 10), 1);
        due("TOLD", x.of(1, 14), 2);
        due("TOLD", x.of(0, 10), 3);
        due("TOLD, not the POWER", x.of(1, 24), 4);
    }

    private static void tellRefused() {
        S.says("Promise 4", "Refused far: -1 either; -4 -9; -6 9.");
        PureGroups x = new PureGroups();
        due("none is there", x.tell(0, 0, 0), 1000000001);
        for (int q = 0; q < 8; q++) {
            x.quantity(0);
        }
        int[] noQuantities = {8, -1, Integer.MAX_VALUE, Integer.MIN_VALUE};
        for (int q : noQuantities) {
            due("tell(" + q + ", 0, 0)", x.tell(q, 0, 0), 1000000001);
            due("tell(" + q + ", 0, 10)", x.tell(q, 0, 10), 1000000001);
        }
        int[] noUnits = {5, -1, Integer.MAX_VALUE, Integer.MIN_VALUE};
        for (int unit : noUnits) {
            due("tell(7, " + unit + ", 0)", x.tell(7, unit, 0), 1000000001);
            due("tell(7, " + unit + ", -10)", x.tell(7, unit, -10), 1000000001);
        }
        due("-10", x.tell(7, 4, -10), 1000000004);
        due("-9", x.tell(7, 4, -9), 0);
        due("10", x.tell(7, 4, 10), 1000000006);
        due("9", x.tell(7, 4, 9), -9);
        due("least", x.tell(7, 4, Integer.MIN_VALUE), 1000000004);
        due("greatest", x.tell(7, 4, Integer.MAX_VALUE), 1000000006);
        due("as told", x.of(7, 14), 9);
        due("NOBODY", x.count(11), 17);
        due("BELOW", x.count(14), 2);
        due("ROOM", x.count(16), 2);
    }

    private static void turn() {
        S.says("Promise 5", "A QUANTITY becomes one of a KIND: what it was.");
        PureGroups x = new PureGroups();
        Check.quantity(x, 0, 1, 2, 3, 4, 5);
        x.scale(0, 2, 3);
        int was = 0;
        int[] kinds = {1, 2, 3, 4, 5, 5, 0};
        int[] unitOne = {2, 1, 0, 0, 2, 2, 2};
        for (int i = 0; i < kinds.length; i++) {
            due("turn(0, " + kinds[i] + ")", x.turn(0, kinds[i]), was);
            due("KIND", x.of(0, 0), kinds[i]);
            due("POWER of UNIT 1", x.of(0, 21), unitOne[i]);
            due("TOLD stays", x.of(0, 11), 2);
            was = kinds[i];
        }
        due("SCALE stays", x.scaled(0, 1), 3);
    }

    private static void turnRefused() {
        S.says("Promise 5", "-1; -2.");
        PureGroups x = new PureGroups();
        due("none is there", x.turn(0, 0), -1);
        x.quantity(3);
        due("turn(1, 0)", x.turn(1, 0), -1);
        due("turn(-1, 0)", x.turn(-1, 0), -1);
        due("turn(1, 6)", x.turn(1, 6), -1);
        due("turn(0, 6)", x.turn(0, 6), -2);
        due("turn(0, -1)", x.turn(0, -1), -2);
        due("turn(0, 5)", x.turn(0, 5), 3);
        due("turn(0, 0)", x.turn(0, 0), 5);
        due("NOBODY", x.count(11), 4);
        due("OTHER", x.count(12), 2);
    }

    private static void of() {
        S.says("Promise 6", "Of a QUANTITY: 0 KIND, 1 whether it is LOOSE (1, 0), 2 whether it is PURE (1, 0), 10 .. 14 TOLD,"
            + " 20 .. 24 the POWER in its DIMENSION, of UNITS 0 .. 4.");
        PureGroups x = new PureGroups();
        Check.quantity(x, 5, -9, -9, 0, 9, 9);
        int[][] due = {{0, 5}, {1, 0}, {2, 0}, {10, -9}, {11, -9}, {12, 0}, {13, 9}, {14, 9}, {20, -18}, {21, -20}, {22, 0}, {23, 18}, {24, 18}};
        for (int[] one : due) {
            due("of(0, " + one[0] + ")", x.of(0, one[0]), one[1]);
        }
        x.turn(0, 4);
        due("a COUNT is LOOSE", x.of(0, 1), 1);
        due("a COUNT is PURE", x.of(0, 2), 1);
        due("a COUNT is TOLD", x.of(0, 10), -9);
        due("a COUNT has no POWER", x.of(0, 20), 0);
        Check.quantity(x, 0, 3);
        Check.quantity(x, 0, -3);
        due("FIRM", x.of(1, 1), 0);
        due("LOOSE, not PURE", x.of(2, 1), 1);
        due("LOOSE, not PURE", x.of(2, 2), 0);
        x.turn(1, 4);
        due("FIRM now", x.of(2, 1), 0);
    }

    private static void ofRefused() {
        S.says("Promise 6", "Refused far: -1; -2.");
        PureGroups x = new PureGroups();
        due("none is there", x.of(0, 0), 1000000001);
        x.quantity(0);
        int[] good = {0, 1, 2, 10, 11, 12, 13, 14, 20, 21, 22, 23, 24};
        for (int what = -2; what <= 30; what++) {
            boolean stands = false;
            for (int one : good) {
                stands = stands || one == what;
            }
            due("of(0, " + what + ")", x.of(0, what), !stands ? 1000000002 : what == 1 || what == 2 ? 1 : 0);
            due("of(1, " + what + ")", x.of(1, what), 1000000001);
            due("of(-1, " + what + ")", x.of(-1, what), 1000000001);
        }
        due("OTHER", x.count(12), 33 - 13);
    }

    private static void twin() {
        S.says("Promise 7", "The least other QUANTITY with the same DIMENSION; -9. -1.");
        PureGroups x = new PureGroups();
        due("none is there", x.twin(0), -1);
        x.quantity(4);
        due("no other", x.twin(0), -9);
        Check.quantity(x, 0, 1, 2, 3, 4, 5);
        due("no like", x.twin(1), -9);
        Check.quantity(x, 1, 1, 2, 4, 4, 5);
        due("of another KIND", x.twin(1), 2);
        due("of another KIND", x.twin(2), 1);
        Check.quantity(x, 0, 1, 2, 3, 4, 6);
        due("one POWER is otherwise", x.twin(3), -9);
        Check.quantity(x, 2, 1, 3, 3, 4, 5);
        due("the least", x.twin(4), 1);
        due("the least other", x.twin(1), 2);
        x.quantity(0);
        due("PURE ones", x.twin(5), 0);
        due("PURE ones", x.twin(0), 5);
        x.quantity(0);
        x.quantity(0);
        due("the last", x.twin(7), 0);
        due("QUANTITY 8", x.twin(8), -1);
        due("QUANTITY -1", x.twin(-1), -1);
        due("NOBODY", x.count(11), 3);
        PureGroups sign = new PureGroups();
        Check.quantity(sign, 0, 1, -1);
        Check.quantity(sign, 0, -1, 1);
        Check.quantity(sign, 0, 2, -2);
        due("with another sign, twice", sign.twin(0), -9);
    }

    private static void taken() {
        S.says("Promise 8", "A QUANTITY taken for one of a KIND, or of one under it: its KIND.");
        int[][] under = {{0}, {1, 0}, {2, 0}, {3, 1, 0}, {4, 0}, {5, 2, 0}};
        for (int kind = 0; kind <= 5; kind++) {
            PureGroups x = new PureGroups();
            x.quantity(kind);
            for (int above : under[kind]) {
                due("KIND " + kind + " for " + above, x.taken(0, above), kind);
            }
            due("it stays", x.of(0, 0), kind);
        }
    }

    private static void takenRefused() {
        S.says("Promise 8", "-1; -2; -16.");
        PureGroups x = new PureGroups();
        due("none is there", x.taken(0, 0), -1);
        int[][] others = {{1, 2, 3, 4, 5}, {2, 3, 4, 5}, {1, 3, 4, 5}, {2, 4, 5}, {1, 2, 3, 5}, {1, 3, 4}};
        for (int kind = 0; kind <= 5; kind++) {
            x.quantity(kind);
            for (int other : others[kind]) {
                due("KIND " + kind + " for " + other, x.taken(kind, other), -16);
            }
            due("KIND " + kind + " for -1", x.taken(kind, -1), -2);
            due("KIND " + kind + " for 6", x.taken(kind, 6), -2);
        }
        due("taken(6, 6)", x.taken(6, 6), -1);
        due("taken(6, 0)", x.taken(6, 0), -1);
        due("taken(-1, 0)", x.taken(-1, 0), -1);
        due("NOBODY", x.count(11), 4);
        due("OTHER", x.count(12), 12);
        due("no more", x.count(13) + x.count(14) + x.count(15) + x.count(16), 0);
    }
}
