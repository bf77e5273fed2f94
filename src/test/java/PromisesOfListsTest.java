/** Promises 33 to 37, sentence by sentence. */
public final class PromisesOfListsTest {
    private static final Sentences S = new Sentences("PromisesOfListsTest");
    private static final int MIN = Integer.MIN_VALUE;
    private static final int MAX = Integer.MAX_VALUE;
    private static final int[] NO_LISTS = {-1, 3, MIN, MAX};

    private static void due(String call, long got, long want) {
        S.due(call, got, want);
    }

    public static void main(String[] args) {
        list();
        listRefused();
        put();
        putRefused();
        look();
        lays();
        laysInto();
        laysRefused();
        judge();
        judgeOfEight();
        judgeRefused();
        S.finish("Promise 33", "Promise 34", "Promise 35", "Promise 36", "Promise 37");
    }

    private static void list() {
        S.says("Promise 33", "A LIST becomes a row of n ints, all 0: 1.");
        PureGroups x = new PureGroups();
        due("list(2, 3)", x.list(2, 3), 1);
        for (int i = 0; i < 3; i++) {
            due("look(2, " + i + ")", x.look(2, i), 0);
            x.put(2, i, 7 + i);
        }
        due("only three", x.look(2, 3), 1000000013);
        due("longer", x.list(2, 5), 1);
        for (int i = 0; i < 5; i++) {
            due("all 0 again: " + i, x.look(2, i), 0);
        }
        x.put(2, 4, 1);
        due("shorter", x.list(2, 1), 1);
        due("shorter", x.look(2, 1), 1000000013);
        due("longer", x.list(2, 40), 1);
        due("what was there is 0", x.look(2, 4), 0);
        due("the last", x.look(2, 39), 0);
        due("none", x.list(2, 0), 1);
        due("none, but not missing", x.look(2, 0), 1000000013);
        due("others are missing", x.look(1, 0), 1000000011);
    }

    private static void listRefused() {
        S.says("Promise 33", "-1; -6 40; -14.");
        PureGroups x = new PureGroups();
        for (int list : NO_LISTS) {
            due("list(" + list + ", 40)", x.list(list, 40), -1);
            due("list(" + list + ", 41)", x.list(list, 41), -1);
            due("list(" + list + ", -1)", x.list(list, -1), -1);
        }
        due("41", x.list(0, 41), -6);
        due("greatest", x.list(0, MAX), -6);
        due("-1", x.list(0, -1), -14);
        due("least", x.list(0, MIN), -14);
        due("still missing", x.look(0, 0), 1000000011);
        due("40", x.list(0, 40), 1);
        due("39", x.list(1, 39), 1);
        due("0", x.list(2, 0), 1);
        due("NOBODY", x.count(11), 12);
        due("ROOM", x.count(16), 2);
        due("-14 isn't counted", x.count(12) + x.count(13) + x.count(14) + x.count(15), 0);
    }

    private static void put() {
        S.says("Promise 34", "Place i of a LIST becomes v: 1.");
        PureGroups x = new PureGroups();
        for (int list = 0; list < 3; list++) {
            x.list(list, 40);
        }
        int[] values = {MIN, -100, -1, 0, 1, 100, MAX};
        for (int list = 0; list < 3; list++) {
            for (int v : values) {
                due("put(" + list + ", 0, " + v + ")", x.put(list, 0, v), 1);
                due("look(" + list + ", 0)", x.look(list, 0), v);
                due("put(" + list + ", 39, " + v + ")", x.put(list, 39, v), 1);
                due("look(" + list + ", 39)", x.look(list, 39), v);
            }
            due("its neighbour", x.look(list, 1), 0);
            x.put(list, 0, list);
        }
        for (int list = 0; list < 3; list++) {
            due("each its own", x.look(list, 0), list);
        }
    }

    private static void putRefused() {
        S.says("Promise 34", "-1; -11; -13.");
        PureGroups x = new PureGroups();
        for (int list : NO_LISTS) {
            due("put(" + list + ", 0, 1)", x.put(list, 0, 1), -1);
        }
        due("missing", x.put(0, 0, 1), -11);
        due("missing, no place", x.put(0, -1, 1), -11);
        x.list(0, 2);
        int[] places = {-1, 2, 40, MIN, MAX};
        for (int i : places) {
            due("put(0, " + i + ", 1)", x.put(0, i, 1), -13);
        }
        due("place 1 of two", x.put(0, 1, 1), 1);
        due("place 0 of two", x.look(0, 0), 0);
        x.list(1, 0);
        due("place 0 of none", x.put(1, 0, 1), -13);
        due("NOBODY", x.count(11), 4);
        due("no others", x.count(12) + x.count(13) + x.count(14) + x.count(15) + x.count(16), 0);
    }

    private static void look() {
        S.says("Promise 35", "Place i of a LIST.");
        PureGroups x = new PureGroups();
        x.list(1, 40);
        for (int i = 0; i < 40; i++) {
            x.put(1, i, 1000 - i);
        }
        for (int i = 0; i < 40; i++) {
            due("look(1, " + i + ")", x.look(1, i), 1000 - i);
        }
        S.says("Promise 35", "Refused far: -1; -11; -13.");
        for (int list : NO_LISTS) {
            due("look(" + list + ", 0)", x.look(list, 0), 1000000001);
            due("look(" + list + ", -1)", x.look(list, -1), 1000000001);
        }
        due("missing", x.look(0, 0), 1000000011);
        due("missing, no place", x.look(0, -1), 1000000011);
        int[] places = {-1, 40, 41, MIN, MAX};
        for (int i : places) {
            due("look(1, " + i + ")", x.look(1, i), 1000000013);
        }
        due("NOBODY", x.count(11), 8);
        due("no others", x.count(12) + x.count(13) + x.count(14) + x.count(15) + x.count(16), 0);
    }

    /** A 2, B 1, C -1, D none of UNIT 0: GROUPS B^2 / A, C^2 A, D. */
    private static PureGroups four() {
        PureGroups x = new PureGroups();
        Check.quantity(x, 0, 2);
        Check.quantity(x, 0, 1);
        Check.quantity(x, 0, -1);
        x.quantity(0);
        return x;
    }

    private static void lays() {
        S.says("Promise 36", "The powers of a GROUP (of QUANTITIES 0, 1, ..) are laid into a LIST from place i on: how many.");
        PureGroups x = four();
        int[][] powers = {{-1, 2, 0, 0}, {1, 0, 2, 0}, {0, 0, 0, 1}};
        for (int list = 0; list < 3; list++) {
            for (int group = 0; group < 3; group++) {
                Check.list(x, list, 9, 9, 9, 9, 9, 9);
                due("lays(" + list + ", 1, " + group + ")", x.lays(list, 1, group), 4);
                due("ahead", x.look(list, 0), 9);
                for (int q = 0; q < 4; q++) {
                    due("place " + (1 + q), x.look(list, 1 + q), powers[group][q]);
                }
                due("behind", x.look(list, 5), 9);
            }
        }
        due("the LIST tells a PURE PRODUCT", x.lays(0, 0, 1) + x.pure(0), 5);
        due("of which it is 1", x.cover(0, 1, 0), 1);
        due("by 1", x.cover(0, 1, 1), 1);
        due("and 0 of the others", x.cover(0, 0, 0), 0);
    }

    private static void laysInto() {
        PureGroups x = four();
        x.list(0, 4);
        due("just four", x.lays(0, 0, 0), 4);
        x.list(0, 40);
        due("the last four", x.lays(0, 36, 0), 4);
        due("the last but two", x.look(0, 37), 2);
        due("one further", x.lays(0, 37, 2), -13);
        due("none is laid", x.look(0, 37), 2);
        PureGroups eight = new PureGroups();
        for (int q = 0; q < 8; q++) {
            eight.quantity(4);
        }
        eight.list(1, 8);
        due("eight", eight.lays(1, 0, 7), 8);
        due("the eighth", eight.look(1, 7), 1);
        eight.list(1, 7);
        due("eight into seven", eight.lays(1, 0, 7), -13);
        eight.list(1, 40);
        due("the last eight", eight.lays(1, 32, 0), 8);
        due("the first of them", eight.look(1, 32), 1);
        due("one further", eight.lays(1, 33, 0), -13);
        PureGroups one = new PureGroups();
        one.quantity(4);
        one.list(2, 1);
        due("one", one.lays(2, 0, 0), 1);
        due("one", one.look(2, 0), 1);
    }

    private static void laysRefused() {
        S.says("Promise 36", "-1 either; -11; -13 not all have a place (none is laid).");
        PureGroups x = four();
        for (int list : NO_LISTS) {
            due("lays(" + list + ", 0, 0)", x.lays(list, 0, 0), -1);
        }
        int[] noGroups = {-1, 3, 8, MIN, MAX};
        for (int group : noGroups) {
            due("lays(0, 0, " + group + "), missing", x.lays(0, 0, group), -1);
        }
        due("missing", x.lays(0, 0, 0), -11);
        due("missing, no place", x.lays(0, -1, 0), -11);
        x.list(0, 5);
        for (int i = 0; i < 5; i++) {
            x.put(0, i, 50 + i);
        }
        int[] places = {-1, -4, 2, 3, 4, 5, 40, MIN, MAX, MAX - 3};
        for (int i : places) {
            due("lays(0, " + i + ", 0)", x.lays(0, i, 0), -13);
            due("lays(0, " + i + ", 3)", x.lays(0, i, 3), -1);
        }
        for (int i = 0; i < 5; i++) {
            due("none is laid: " + i, x.look(0, i), 50 + i);
        }
        due("place 1", x.lays(0, 1, 0), 4);
        x.list(1, 0);
        due("into none", x.lays(1, 0, 0), -13);
        due("no GROUPS", new PureGroups().lays(0, 0, 0), -1);
        due("NOBODY", x.count(11), 4 + 5 + 10);
        due("no others", x.count(12) + x.count(13) + x.count(14) + x.count(15) + x.count(16), 0);
    }

    private static void judge() {
        S.says("Promise 37", "TOLD DIMENSIONS by a LIST; -9 (also if it tells fewer).");
        PureGroups x = new PureGroups();
        Check.quantity(x, 0, 1, -2, 3, -4, 5);
        Check.quantity(x, 5, 1, -2, 3, -4, 5);
        for (int list = 0; list < 3; list++) {
            Check.list(x, list, 1, -2, 3, -4, 5, 2, -6, 6, -8, 10);
            due("all", x.judge(list), -9);
        }
        for (int i = 0; i < 10; i++) {
            int was = x.look(2, i);
            x.put(2, i, was + 1);
            due("otherwise at " + i, x.judge(2), i);
            x.put(2, 9, MIN);
            due("the first", x.judge(2), i);
            x.put(2, 9, 10);
            x.put(2, i, was);
        }
        Check.list(x, 1, 1, -2, 3, -4, 5, 2, -6, 6, -8);
        due("one fewer", x.judge(1), -9);
        Check.list(x, 1, 1);
        due("nine fewer", x.judge(1), -9);
        x.list(1, 0);
        due("ten fewer", x.judge(1), -9);
        Check.list(x, 1, 1, -2, 3, -4, 5, 2, -6, 6, -8, 10, 0);
        due("one more", x.judge(1), 10);
    }

    private static void judgeOfEight() {
        PureGroups x = new PureGroups();
        due("of none, none told", x.list(0, 0) + x.judge(0), 1 - 9);
        x.list(0, 40);
        due("of none, the first", x.judge(0), 0);
        for (int q = 0; q < 8; q++) {
            x.quantity(4);
            due("0 of a COUNT", x.judge(0), q == 7 ? -9 : 5 * q + 5);
        }
        x.turn(7, 1);
        due("of the last QUANTITY", x.judge(0), 37);
        x.put(0, 37, -1);
        due("all 40", x.judge(0), -9);
        x.put(0, 39, 1);
        due("the last", x.judge(0), 39);
    }

    private static void judgeRefused() {
        S.says("Promise 37", "-1; -11.");
        PureGroups x = new PureGroups();
        for (int list : NO_LISTS) {
            due("judge(" + list + ")", x.judge(list), -1);
        }
        for (int list = 0; list < 3; list++) {
            due("missing", x.judge(list), -11);
        }
        due("NOBODY", x.count(11), 4);
        due("no others", x.count(12) + x.count(13) + x.count(14) + x.count(15) + x.count(16), 0);
    }
}
