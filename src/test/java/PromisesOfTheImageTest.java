/** Promises 38 to 41, sentence by sentence. */
public final class PromisesOfTheImageTest {
    private static final Sentences S = new Sentences("PromisesOfTheImageTest");
    private static final int MIN = Integer.MIN_VALUE;
    private static final int MAX = Integer.MAX_VALUE;

    private static void due(String call, long got, long want) {
        S.due(call, got, want);
    }

    public static void main(String[] args) {
        undo();
        undoWhatHangsOnIt();
        undoAtTheBound();
        undoRefused();
        image();
        imageMore();
        on();
        onWithMore();
        onRefused();
        countOfWhatIs();
        countOfRefusals();
        countOther();
        S.finish("Promise 38", "Promise 39", "Promise 40", "Promise 41");
    }

    private static void undo() {
        S.says("Promise 38", "The latest is UNDONE: how many still can be.");
        PureGroups x = new PureGroups();
        x.quantity(2);
        x.tell(0, 3, 7);
        x.scale(0, 6, 4);
        x.turn(0, 1);
        due("three", x.count(4), 3);
        due("turn()", x.undo(), 2);
        due("KIND", x.of(0, 0), 2);
        due("SCALE is still there", x.scaled(0, 0), 3);
        due("count(4)", x.count(4), 2);
        due("scale()", x.undo(), 1);
        due("SCALE", x.scaled(0, 0), -9);
        due("TOLD is still there", x.of(0, 13), 7);
        x.tell(0, 3, -7);
        due("another tell()", x.undo(), 1);
        due("TOLD", x.of(0, 13), 7);
        due("tell()", x.undo(), 0);
        due("TOLD", x.of(0, 13), 0);
        due("none", x.count(4), 0);
        x.scale(0, 99, 98);
        x.scale(0, 0, 0);
        due("a SCALE taken away", x.undo(), 1);
        due("it is there again", x.scaled(0, 0) * 100 + x.scaled(0, 1), 9998);
        due("the SCALE", x.undo(), 0);
        due("none again", x.count(2), 0);
    }

    private static void undoWhatHangsOnIt() {
        PureGroups x = new PureGroups();
        Check.quantity(x, 0, 1);
        Check.quantity(x, 0, 2);
        x.quantity(0);
        Check.formula(x, "A=B");
        due("C is PURE", x.rank(2), 6);
        due("BOX", x.box(), 3);
        due("LEAST", x.least(2), -1);
        due("BEST", x.sets(2), 1);
        due("HAD", x.had(1), 5);
        x.tell(1, 1, 1);
        x.tell(2, 1, 1);
        due("then", x.rank(2), 4);
        // C A^2 / B is PURE.
        due("then: BOX", x.box(), 1);
        due("then: LEAST", x.least(0), -2);
        due("then: BEST", x.sets(2), 3);
        due("then", x.had(1), 7);
        due("then", x.sides(2, 1), -1);
        x.undo();
        x.undo();
        due("undone: LOOSE", x.rank(2), 6);
        due("undone: BOX", x.box(), 3);
        due("undone: LEAST", x.least(2), -1);
        due("undone: BEST", x.sets(2), 1);
        due("undone: HAD", x.had(1), 5);
        due("undone: LACKS", x.sides(2, 1), 0);
    }

    private static void undoAtTheBound() {
        PureGroups x = new PureGroups();
        x.quantity(0);
        for (int i = 1; i <= 23; i++) {
            int call = i % 3;
            if (call == 0) {
                x.turn(0, i % 6);
            } else if (call == 1) {
                x.tell(0, i % 5, i % 9);
            } else {
                x.scale(0, i, 97);
            }
            due("of " + i, x.count(4), Math.min(20, i));
        }
        for (int i = 19; i >= 0; i--) {
            due("undo()", x.undo(), i);
        }
        due("the fourth and later ones are UNDONE", x.undo(), -3);
        due("the first stays", x.of(0, 11), 1);
        due("the second stays", x.scaled(0, 0), 2);
        due("the third stays", x.of(0, 0), 3);
        due("the fourth doesn't", x.of(0, 14), 0);
    }

    private static void undoRefused() {
        S.says("Promise 38", "-3 there is none.");
        PureGroups x = new PureGroups();
        due("of nothing", x.undo(), -3);
        x.quantity(0);
        due("quantity() is no change to UNDO", x.undo(), -3);
        x.letter('A');
        x.list(0, 3);
        x.put(0, 0, 1);
        Check.formula(x, "=A");
        x.image();
        due("nor are others", x.undo(), -3);
        x.tell(0, 0, 1);
        due("tell() is", x.undo(), 0);
        due("once only", x.undo(), -3);
        x.turn(0, 1);
        x.quantity(0);
        due("after quantity()", x.undo(), -3);
        x.turn(0, 2);
        x.on();
        due("after ON", x.undo(), -3);
        due("STATE", x.count(13), 6);
    }

    private static void image() {
        S.says("Promise 39", "THE IMAGE is taken: how many QUANTITIES.");
        PureGroups x = new PureGroups();
        for (int q = 0; q <= 8; q++) {
            due("image() of " + q, x.image(), q);
            x.quantity(q % 6);
        }
        due("of eight still", x.image(), 8);
        due("eight as then", x.on(), 8);
    }

    private static void imageMore() {
        PureGroups x = new PureGroups();
        Check.quantity(x, 0, 1);
        due("the first", x.image(), 1);
        Check.quantity(x, 0, 2);
        due("a later one takes its place", x.image(), 2);
        x.tell(0, 0, 9);
        due("the later one", x.on(), 2);
        due("as then", x.of(0, 10), 1);
        due("as then", x.of(1, 10), 2);
        x.tell(1, 0, 5);
        due("what is UNDONE later", x.image(), 2);
        x.undo();
        due("UNDONE", x.of(1, 10), 2);
        x.on();
        due("as the IMAGE was taken", x.of(1, 10), 5);
    }

    private static void on() {
        S.says("Promise 40", "ON from it: how many QUANTITIES.");
        PureGroups x = new PureGroups();
        Check.quantity(x, 2, 1, 2, 3, 4, 5);
        x.scale(0, 99, 2);
        Check.formula(x, "A=A+1");
        x.image();
        for (int round = 0; round < 3; round++) {
            x.tell(0, 4, -9);
            x.turn(0, 4);
            x.scale(0, 0, 0);
            Check.quantity(x, 3, 9);
            Check.formula(x, "B=B");
            due("on()", x.on(), 1);
            due("KIND", x.of(0, 0), 2);
            due("TOLD", x.of(0, 14), 5);
            due("POWER", x.of(0, 21), 1);
            due("SCALE", x.scaled(0, 0) * 10 + x.scaled(0, 1), 992);
            due("TERMS", x.count(3), 3);
            due("WRONG", x.wrong(0), 4);
            due("B isn't there", x.of(1, 0), 1000000001);
            due("RANK", x.rank(0), 1);
        }
    }

    private static void onWithMore() {
        PureGroups x = new PureGroups();
        for (int q = 0; q < 8; q++) {
            Check.quantity(x, 0, q, q - 1);
        }
        Check.formula(x, "H=A");
        x.image();
        PureGroups none = new PureGroups();
        none.image();
        Check.quantity(none, 1, 3);
        Check.formula(none, "A=A");
        due("ON to none", none.on(), 0);
        due("no QUANTITIES", none.count(0), 0);
        due("no FORMULA", none.count(3), -9);
        due("no FORMULA", none.mend(-1), -3);
        due("BOX", none.box(), 1);
        x.turn(7, 4);
        Check.formula(x, "A=A");
        due("ON to eight", x.on(), 8);
        due("the eighth", x.of(7, 20), 7);
        due("THE FORMULA", x.wrong(2), 129);
        due("LACKS", x.sides(2, 0), 7);
        due("still no room", x.quantity(0), -6);
    }

    private static void onRefused() {
        S.says("Promise 40", "-3 there is no IMAGE.");
        PureGroups x = new PureGroups();
        due("none was taken", x.on(), -3);
        Check.quantity(x, 0, 1);
        due("none was taken", x.on(), -3);
        due("it stays", x.of(0, 10), 1);
        due("still to be UNDONE", x.count(4), 1);
        x.image();
        due("one was", x.on(), 1);
        due("more than once", x.on(), 1);
        due("STATE", x.count(13), 2);
    }

    private static void countOfWhatIs() {
        S.says("Promise 41", "0 QUANTITIES, 1 letters, 2 with a SCALE (bits), 3 TERMS of THE FORMULA (-9 none), 4 what can be UNDONE,");
        PureGroups x = new PureGroups();
        for (int q = 0; q < 8; q++) {
            x.quantity(0);
            due("QUANTITIES", x.count(0), q + 1);
            due("with a SCALE", x.count(2), 0);
        }
        int bits = 0;
        for (int q = 7; q >= 0; q--) {
            x.scale(q, 1, 1);
            bits += 1 << q;
            due("with a SCALE", x.count(2), bits);
            due("what can be UNDONE", x.count(4), 8 - q);
        }
        x.scale(4, 0, 1);
        due("with a SCALE", x.count(2), 255 - 16);
        due("TERMS, none", x.count(3), -9);
        for (int i = 1; i <= 72; i++) {
            x.letter(i == 2 ? '=' : i < 4 ? 'A' : i % 2 == 0 ? '+' : 'H');
            due("letters", x.count(1), i);
        }
        due("a TERM lacks", x.formula(), -1072);
        due("letters", x.count(1), 0);
        due("TERMS, none", x.count(3), -9);
        due("TERMS", Check.formula(x, "A=A+B+C"), 4);
        due("TERMS", x.count(3), 4);
    }

    private static void countOfRefusals() {
        S.says("Promise 41", "11 .. 16 REFUSALS -1 .. -6.");
        PureGroups x = new PureGroups();
        for (int i = 1; i <= 70; i++) {
            x.twin(i);
            x.rank(-i);
            x.undo();
            x.letter(-i);
            x.had(3 + i);
        }
        due("count(11)", x.count(11), 70);
        due("count(12)", x.count(12), 70);
        due("count(13)", x.count(13), 70);
        due("count(14)", x.count(14), 70);
        due("count(15)", x.count(15), 0);
        due("count(16)", x.count(16), 70);
        x.quantity(0);
        x.image();
        x.on();
        x.tell(0, 0, 1);
        x.undo();
        due("they stay", x.count(11), 70);
    }

    private static void countOther() {
        S.says("Promise 41", "-9 for another what.");
        PureGroups x = new PureGroups();
        for (int what = -5; what <= 25; what++) {
            boolean stands = what >= 0 && what <= 4 && what != 3 || what >= 11 && what <= 16;
            due("count(" + what + ")", x.count(what), stands ? 0 : -9);
        }
        due("least", x.count(MIN), -9);
        due("greatest", x.count(MAX), -9);
        due("not a REFUSAL", x.count(12), 0);
    }
}
