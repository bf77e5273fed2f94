/** Promises 38 to 41: changes UNDONE, THE IMAGE, what is counted. */
public final class ImageTest {
    private static final Check CHECK = new Check("ImageTest");

    private static void due(String call, long got, long want) {
        CHECK.due(call, got, want);
    }

    public static void main(String[] args) {
        undo();
        undoTwenty();
        undoLeft();
        imageAndOn();
        onAgain();
        count();
        CHECK.finish();
    }

    private static void undo() {
        PureGroups x = new PureGroups();
        due("38: none", x.undo(), -3);
        Check.quantity(x, 0, 3);
        x.tell(0, 0, 4);
        x.turn(0, 5);
        x.scale(0, 2, 3);
        x.scale(0, 5, 7);
        x.scale(0, 0, 0);
        x.tell(0, 0, 4);
        due("38: count(4)", x.count(4), 7);
        due("38: all stayed", x.undo(), 6);
        due("38: TOLD", x.of(0, 10), 4);
        due("38: a SCALE that was none", x.undo(), 5);
        due("38: SCALE", x.scaled(0, 0) * 10 + x.scaled(0, 1), 57);
        due("38: the other", x.undo(), 4);
        due("38: SCALE", x.scaled(0, 0) * 10 + x.scaled(0, 1), 23);
        due("38: the first", x.undo(), 3);
        due("38: no SCALE", x.scaled(0, 0), -9);
        due("38: POWER of a SQUARE", x.of(0, 21), -2);
        due("38: turned", x.undo(), 2);
        due("38: POWER of a PLAIN", x.of(0, 20), 4);
        due("38: PLAIN", x.of(0, 0), 0);
        due("38: TOLD", x.undo(), 1);
        due("38: TOLD", x.of(0, 10), 3);
        due("38: TOLD first", x.undo(), 0);
        due("38: TOLD first", x.of(0, 10), 0);
        due("38: LOOSE again", x.of(0, 1), 1);
        due("38: none", x.undo(), -3);
        due("38: count(13)", x.count(13), 2);
    }

    private static void undoTwenty() {
        PureGroups x = new PureGroups();
        x.quantity(0);
        x.quantity(0);
        for (int i = 0; i < 25; i++) {
            x.tell(i % 2, i % 5, i % 9 + 1);
            due("38: 20 at most", x.count(4), Math.min(i + 1, 20));
        }
        for (int i = 19; i >= 0; i--) {
            due("38: the latest first", x.undo(), i);
        }
        due("38: older ones no more", x.undo(), -3);
        int[] told = {1, 2, 3, 4, 5};
        for (int unit = 0; unit < 5; unit++) {
            due("38: the first five stay", x.of(unit % 2, 10 + unit), told[unit]);
            due("38: the others don't", x.of(1 - unit % 2, 10 + unit), 0);
        }
        x.turn(0, 2);
        due("38: from there on", x.undo(), 0);
    }

    private static void undoLeft() {
        PureGroups x = new PureGroups();
        x.quantity(0);
        x.tell(0, 0, 1);
        x.quantity(7);
        due("38: a refused quantity()", x.count(4), 1);
        x.on();
        due("38: a refused on()", x.count(4), 1);
        x.tell(0, 0, 10);
        x.turn(0, 6);
        x.scale(0, 100, 1);
        due("38: refused ones", x.count(4), 1);
        x.image();
        x.list(0, 1);
        Check.formula(x, "A=A");
        due("38: others leave it", x.count(4), 1);
        x.quantity(0);
        due("38: quantity() leaves none", x.count(4), 0);
        due("38: quantity() leaves none", x.undo(), -3);
        x.tell(0, 0, 2);
        x.on();
        due("38: ON leaves none", x.count(4), 0);
        due("38: ON leaves none", x.undo(), -3);
    }

    private static void imageAndOn() {
        PureGroups x = new PureGroups();
        due("40: none", x.on(), -3);
        Check.quantity(x, 1, 0, 2);
        Check.quantity(x, 0, 1);
        x.scale(1, 4, 6);
        Check.formula(x, "A=B+1");
        due("39: image()", x.image(), 2);
        Check.quantity(x, 0, 0, 0, 0, 7);
        x.scale(2, 9, 1);
        x.tell(0, 1, 3);
        x.turn(0, 5);
        x.scale(1, 0, 0);
        Check.formula(x, "C=1");
        Check.say(x, "AB");
        Check.list(x, 0, 5, 6);
        due("40: on()", x.on(), 2);
        due("40: KIND", x.of(0, 0), 1);
        due("40: TOLD", x.of(0, 11), 2);
        due("40: POWER", x.of(0, 22), -1);
        due("40: SCALE", x.scaled(1, 0) * 10 + x.scaled(1, 1), 23);
        due("40: no third", x.of(2, 0), 1000000001);
        due("40: RANK", x.rank(0), 2);
        due("40: TERMS", x.count(3), 3);
        due("40: THE FORMULA", x.wrong(2), 3);
        due("40: letters stay", x.count(1), 2);
        due("40: LISTS stay", x.look(0, 1), 6);
        due("40: count(2)", x.count(2), 2);
        due("40: a new third", x.quantity(0), 2);
        due("40: nothing TOLD of it", x.of(2, 13), 0);
        due("40: no SCALE of it", x.scaled(2, 0), -9);
        due("40: count(13) stays", x.count(13), 1);
    }

    private static void onAgain() {
        PureGroups x = new PureGroups();
        due("39: of none", x.image(), 0);
        Check.quantity(x, 0, 1);
        Check.formula(x, "A=A");
        due("40: of none", x.on(), 0);
        due("40: no FORMULA then", x.count(3), -9);
        due("40: no FORMULA then", x.wrong(0), -3);
        Check.quantity(x, 0, 2);
        due("39: another", x.image(), 1);
        x.tell(0, 0, 3);
        due("40: the latest", x.on(), 1);
        due("40: the latest", x.of(0, 10), 2);
        x.tell(0, 0, 4);
        due("40: once more", x.on(), 1);
        due("40: once more", x.of(0, 10), 2);
    }

    private static void count() {
        PureGroups x = new PureGroups();
        Check.quantity(x, 0, 1);
        x.quantity(0);
        x.scale(1, 1, 1);
        Check.say(x, "A=A+A");
        due("41: 0", x.count(0), 2);
        due("41: 1", x.count(1), 5);
        due("41: 2", x.count(2), 2);
        due("41: 3", x.count(3), -9);
        due("41: 4", x.count(4), 1);
        x.formula();
        due("41: 1", x.count(1), 0);
        due("41: 3", x.count(3), 3);
        x.twin(5);
        x.of(9, 0);
        x.sizes(-1);
        x.quantity(9);
        x.of(0, 3);
        x.odds(3);
        x.rank(4);
        x.on();
        x.sizes(3);
        x.rest(0, 0, 0);
        x.letter(-1);
        x.tell(0, 0, -10);
        x.letter(300);
        x.tell(0, 0, 10);
        x.had(4);
        x.judge(0);
        x.look(0, 0);
        x.list(0, -1);
        x.taken(0, 1);
        x.list(0, 0);
        x.put(0, 0, 0);
        int[] due = {3, 4, 3, 2, 0, 3};
        for (int i = 0; i < 6; i++) {
            due("41: count(" + (11 + i) + ")", x.count(11 + i), due[i]);
        }
        int[] others = {-1, 5, 6, 10, 17, 100, Integer.MIN_VALUE, Integer.MAX_VALUE};
        for (int what : others) {
            due("41: count(" + what + ")", x.count(what), -9);
        }
        due("41: -9 isn't a refusal", x.count(12), 4);
    }
}
