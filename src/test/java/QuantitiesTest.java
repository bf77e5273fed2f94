/** Promises 1 to 8: a new object, letters, QUANTITIES. */
public final class QuantitiesTest {
    private static final Check CHECK = new Check("QuantitiesTest");

    private static void due(String call, long got, long want) {
        CHECK.due(call, got, want);
    }

    public static void main(String[] args) {
        newObject();
        letter();
        quantity();
        tell();
        turn();
        ofKinds();
        ofWhats();
        twin();
        taken();
        CHECK.finish();
    }

    private static void newObject() {
        PureGroups x = new PureGroups();
        for (int what = 0; what <= 16; what++) {
            boolean none = what == 3 || what > 4 && what < 11;
            due("1: count(" + what + ")", x.count(what), none ? -9 : 0);
        }
        due("1: no QUANTITY", x.of(0, 0), 1000000001);
        due("1: no FORMULA", x.wrong(0), -3);
        due("1: no LIST", x.judge(0), -11);
        due("1: nothing UNDONE", x.undo(), -3);
        due("1: no IMAGE", x.on(), -3);
    }

    private static void letter() {
        PureGroups x = new PureGroups();
        due("2: letter(-1)", x.letter(-1), -4);
        due("2: letter(256)", x.letter(256), -6);
        due("2: letter(0)", x.letter(0), 1);
        due("2: letter(255)", x.letter(255), 2);
        for (int i = 3; i <= 72; i++) {
            due("2: letter", x.letter('A'), i);
        }
        due("2: the 73rd", x.letter('A'), -6);
        due("2: the 73rd, below", x.letter(Integer.MIN_VALUE), -4);
        due("2: count(1)", x.count(1), 72);
        due("2: count(14)", x.count(14), 2);
        due("2: count(16)", x.count(16), 2);
    }

    private static void quantity() {
        PureGroups x = new PureGroups();
        due("3: quantity(-1)", x.quantity(-1), -2);
        due("3: quantity(6)", x.quantity(6), -2);
        for (int i = 0; i < 8; i++) {
            due("3: quantity", x.quantity(i % 6), i);
        }
        due("3: the ninth", x.quantity(0), -6);
        due("3: the ninth, no KIND", x.quantity(6), -2);
        due("3: count(0)", x.count(0), 8);
        due("3: count(12)", x.count(12), 3);
        due("3: count(16)", x.count(16), 1);
        for (int q = 0; q < 8; q++) {
            due("3: its KIND", x.of(q, 0), q % 6);
            due("3: TOLD 0", x.of(q, 12), 0);
            due("3: no SCALE", x.scaled(q, 0), -9);
        }
    }

    private static void tell() {
        PureGroups x = new PureGroups();
        x.quantity(1);
        due("4: -9", x.tell(0, 2, -9), 0);
        due("4: 9", x.tell(0, 2, 9), -9);
        due("4: as it was", x.tell(0, 2, 9), 9);
        due("4: the last UNIT", x.tell(0, 4, 3), 0);
        due("4: below", x.tell(0, 0, -10), 1000000004);
        due("4: above", x.tell(0, 0, 10), 1000000006);
        due("4: no QUANTITY", x.tell(1, 0, 10), 1000000001);
        due("4: QUANTITY below 0", x.tell(-1, 0, 0), 1000000001);
        due("4: no UNIT", x.tell(0, 5, -10), 1000000001);
        due("4: UNIT below 0", x.tell(0, -1, 0), 1000000001);
        due("4: nothing changed", x.of(0, 10), 0);
        due("4: TOLD, not of the DIMENSION", x.of(0, 12), 9);
        due("4: count(11)", x.count(11), 4);
        due("4: count(14)", x.count(14), 1);
        due("4: count(16)", x.count(16), 1);
        due("4: refused ones can't be UNDONE", x.count(4), 4);
    }

    private static void turn() {
        PureGroups x = new PureGroups();
        Check.quantity(x, 0, 1, 2, 3, 4, 5);
        due("5: to COUNT", x.turn(0, 4), 0);
        due("5: PURE", x.of(0, 2), 1);
        due("5: still TOLD", x.of(0, 14), 5);
        due("5: to SQUARE", x.turn(0, 5), 4);
        due("5: twice", x.of(0, 21), 2);
        due("5: KIND", x.of(0, 0), 5);
        due("5: no KIND", x.turn(0, 6), -2);
        due("5: KIND below 0", x.turn(0, -1), -2);
        due("5: no QUANTITY", x.turn(1, 6), -1);
        due("5: QUANTITY below 0", x.turn(-1, 0), -1);
        due("5: as it was", x.turn(0, 5), 5);
        due("5: count(11)", x.count(11), 2);
        due("5: count(12)", x.count(12), 2);
    }

    private static void ofKinds() {
        int[][] dimensions = {
            {1, 2, 3, 4, 5}, {1, 2, 2, 4, 5}, {1, 1, 3, 4, 5}, {1, 0, 2, 4, 5}, {0, 0, 0, 0, 0}, {2, 2, 6, 8, 10}
        };
        PureGroups x = new PureGroups();
        for (int kind = 0; kind < 6; kind++) {
            Check.quantity(x, kind, 1, 2, 3, 4, 5);
            for (int unit = 0; unit < 5; unit++) {
                due("6: TOLD of KIND " + kind, x.of(kind, 10 + unit), unit + 1);
                due("6: POWER of KIND " + kind, x.of(kind, 20 + unit), dimensions[kind][unit]);
            }
            due("6: PURE of KIND " + kind, x.of(kind, 2), kind == 4 ? 1 : 0);
        }
    }

    private static void ofWhats() {
        PureGroups x = new PureGroups();
        Check.quantity(x, 0, 0, 0, 1);
        Check.quantity(x, 0, 0, 0, 2);
        Check.quantity(x, 1, 0, 0, 1);
        due("6: FIRM", x.of(0, 1), 0);
        due("6: LOOSE", x.of(1, 1), 1);
        due("6: PURE by its KIND", x.of(2, 2), 1);
        due("6: PURE ones are LOOSE", x.of(2, 1), 1);
        int[] none = {-1, 3, 9, 15, 19, 25, 100, Integer.MAX_VALUE, Integer.MIN_VALUE};
        for (int what : none) {
            due("6: what " + what, x.of(0, what), 1000000002);
        }
        due("6: no QUANTITY, no what", x.of(3, 3), 1000000001);
        due("6: QUANTITY below 0", x.of(-1, 0), 1000000001);
        due("6: count(12)", x.count(12), none.length);
    }

    private static void twin() {
        PureGroups x = new PureGroups();
        Check.quantity(x, 0, 0, 1, -1);
        Check.quantity(x, 0, 0, 1);
        Check.quantity(x, 1, 0, 1);
        Check.quantity(x, 0, 0, 1, -1);
        due("7: of a RATE", x.twin(0), 2);
        due("7: none", x.twin(1), -9);
        due("7: the least", x.twin(2), 0);
        due("7: the least again", x.twin(3), 0);
        due("7: no QUANTITY", x.twin(4), -1);
        due("7: below 0", x.twin(-1), -1);
        x.tell(0, 4, 1);
        due("7: another UNIT", x.twin(2), 3);
        due("7: another UNIT", x.twin(0), -9);
    }

    private static void taken() {
        int[][] ways = {{0}, {0, 1}, {0, 2}, {0, 1, 3}, {0, 4}, {0, 2, 5}};
        PureGroups x = new PureGroups();
        for (int kind = 0; kind < 6; kind++) {
            x.quantity(kind);
            for (int as = 0; as < 6; as++) {
                int due = -16;
                for (int above : ways[kind]) {
                    due = above == as ? kind : due;
                }
                due("8: KIND " + kind + " taken for " + as, x.taken(kind, as), due);
            }
        }
        due("8: -16 isn't counted", x.count(11) + x.count(12) + x.count(16), 0);
        due("8: no KIND", x.taken(0, 6), -2);
        due("8: KIND below 0", x.taken(0, -1), -2);
        due("8: no QUANTITY", x.taken(6, 6), -1);
        due("8: QUANTITY below 0", x.taken(-1, 0), -1);
        x.turn(0, 3);
        due("8: as it is now", x.taken(0, 1), 3);
    }
}
