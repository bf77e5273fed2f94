/** Promises 33 to 37: LISTS, GROUPS laid into them, TOLD DIMENSIONS. */
public final class ListsTest {
    private static final Check CHECK = new Check("ListsTest");

    private static void due(String call, long got, long want) {
        CHECK.due(call, got, want);
    }

    public static void main(String[] args) {
        list();
        putAndLook();
        lays();
        judge();
        CHECK.finish();
    }

    private static void list() {
        PureGroups x = new PureGroups();
        for (int list = 0; list < 3; list++) {
            due("33: 40", x.list(list, 40), 1);
            due("33: its last", x.put(list, 39, list + 5), 1);
        }
        for (int list = 0; list < 3; list++) {
            due("33: each its own", x.look(list, 39), list + 5);
        }
        due("33: as long again", x.list(1, 40), 1);
        due("33: all 0", x.look(1, 39), 0);
        due("33: 41", x.list(1, 41), -6);
        due("33: -1", x.list(1, -1), -14);
        due("33: no LIST", x.list(3, 41), -1);
        due("33: LIST -1", x.list(-1, -1), -1);
        due("33: nothing changed", x.look(0, 39), 5);
        due("33: 0", x.list(0, 0), 1);
        due("33: none", x.look(0, 0), 1000000013);
        due("33: count(11)", x.count(11), 2);
        due("33: count(16)", x.count(16), 1);
    }

    private static void putAndLook() {
        PureGroups x = new PureGroups();
        due("34: missing", x.put(0, -1, 0), -11);
        due("35: missing", x.look(0, -1), 1000000011);
        due("34: no LIST", x.put(3, 0, 0), -1);
        due("35: no LIST", x.look(3, 0), 1000000001);
        due("34: LIST -1", x.put(-1, 0, 0), -1);
        due("35: LIST -1", x.look(-1, 0), 1000000001);
        x.list(0, 3);
        due("34: the least", x.put(0, 0, Integer.MIN_VALUE), 1);
        due("35: the least", x.look(0, 0), Integer.MIN_VALUE);
        due("34: the greatest", x.put(0, 2, Integer.MAX_VALUE), 1);
        due("35: the greatest", x.look(0, 2), Integer.MAX_VALUE);
        due("34: behind", x.put(0, 3, 1), -13);
        due("34: ahead", x.put(0, -1, 1), -13);
        due("35: behind", x.look(0, 3), 1000000013);
        due("35: ahead", x.look(0, Integer.MIN_VALUE), 1000000013);
        due("35: between", x.look(0, 1), 0);
        due("35: only -1 is counted", x.count(11), 4);
    }

    private static void lays() {
        PureGroups x = new PureGroups();
        Check.quantity(x, 0, 2);
        Check.quantity(x, 0, 1);
        Check.quantity(x, 0, -1);
        due("36: missing", x.lays(0, -1, 0), -11);
        due("36: no LIST", x.lays(3, 0, 0), -1);
        due("36: no GROUP", x.lays(0, 0, 2), -1);
        due("36: GROUP -1", x.lays(0, 0, -1), -1);
        x.list(0, 5);
        due("36: from 2", x.lays(0, 2, 1), 3);
        int[] due = {0, 0, 1, 0, 2};
        for (int i = 0; i < 5; i++) {
            due("36: look(0, " + i + ")", x.look(0, i), due[i]);
        }
        due("36: from 3", x.lays(0, 3, 0), -13);
        due("36: from -1", x.lays(0, -1, 0), -13);
        due("36: from far", x.lays(0, Integer.MAX_VALUE, 0), -13);
        due("36: none is laid", x.look(0, 3), 0);
        due("36: from 0", x.lays(0, 0, 0), 3);
        due("36: the first", x.look(0, 0), -1);
        due("36: the second", x.look(0, 1), 2);
        due("36: the third", x.look(0, 2), 0);
        due("36: the fifth stays", x.look(0, 4), 2);
        due("36: count(11)", x.count(11), 3);
    }

    private static void judge() {
        PureGroups x = new PureGroups();
        Check.quantity(x, 0, 1, 2, 3, 4, 5);
        Check.quantity(x, 1, -1, -2, -3, -4, -5);
        due("37: missing", x.judge(2), -11);
        due("37: no LIST", x.judge(3), -1);
        due("37: LIST -1", x.judge(-1), -1);
        Check.list(x, 2, 1, 2, 3, 4, 5, -1, -2, -4, -4, -5);
        due("37: all", x.judge(2), -9);
        Check.list(x, 2, 1, 2, 3, 4, 5, -1, -2, -4, -4, -5, 0);
        due("37: a QUANTITY that isn't there", x.judge(2), 10);
        Check.list(x, 2, 1, 2, 3, 4, 5, -1, -2, -3, -4, -5);
        due("37: TOLD isn't the POWER", x.judge(2), 7);
        Check.list(x, 2, 1, 2, 3);
        due("37: fewer", x.judge(2), -9);
        x.list(2, 0);
        due("37: none", x.judge(2), -9);
        Check.list(x, 2, 1000);
        due("37: the first", x.judge(2), 0);
        Check.list(x, 2, 1, 2, 3, 4, 6, 7);
        due("37: the first of two", x.judge(2), 4);
        due("37: count(11)", x.count(11), 2);
    }
}
