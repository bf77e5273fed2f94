import java.util.function.Supplier;

/**
 * The paragraph behind term 4, sentence by sentence: fractions, and REFUSALS of every call: each one
 * alone and each ahead of those that its promise tells later, with nothing else changed.
 */
public final class RefusalsTest {
    private static final Sentences S = new Sentences("RefusalsTest");
    private static final String PART = "Fractions";
    private static final long FAR = 1000000000L;
    private static final long FAR_LONG = 4000000000000000000L;
    private static final int MIN = Integer.MIN_VALUE;
    private static final int MAX = Integer.MAX_VALUE;
    private static final Supplier<PureGroups> RICH = RefusalsTest::rich;
    private static final Supplier<PureGroups> FULL = RefusalsTest::full;
    private static final Supplier<PureGroups> EMPTY = PureGroups::new;

    public static void main(String[] args) {
        fractions();
        S.says(PART, "REFUSALS (the call answers the number, the first that fits in the order in which it tells them; nothing changes but how many there were):");
        quantities();
        groups();
        sets();
        scales();
        factors();
        formulas();
        lists();
        image();
        nobody();
        other();
        state();
        below();
        room();
        far();
        notCounted();
        S.finish(PART);
    }

    /**
     * A of UNIT 0 twice (SCALE 4 / 9), B and C once, D a COUNT; GROUPS of B, C, D; LIST 0 tells B / C,
     * LIST 1 begins with 100, LIST 2 is missing; a FORMULA, an IMAGE that is otherwise, a letter.
     */
    private static PureGroups rich() {
        PureGroups x = new PureGroups();
        Check.quantity(x, 0, 2);
        Check.quantity(x, 0, 1);
        Check.formula(x, "B=B");
        x.image();
        Check.quantity(x, 0, 1);
        Check.quantity(x, 4, 5);
        x.scale(0, 4, 9);
        Check.formula(x, "A+B=C");
        Check.say(x, "A");
        Check.list(x, 0, 0, 1, -1);
        Check.list(x, 1, 100);
        return x;
    }

    /** Eight QUANTITIES, 72 letters (a FORMULA), three LISTS: LIST 0 with 100 as its first number. */
    private static PureGroups full() {
        PureGroups x = new PureGroups();
        for (int q = 0; q < 8; q++) {
            x.quantity(q % 6);
        }
        x.image();
        x.tell(7, 4, 3);
        Check.say(x, "A" + "*1".repeat(34) + "=12");
        Check.list(x, 0, 100, 0, 0, 0, 0);
        Check.list(x, 1, 1);
        x.list(2, 0);
        return x;
    }

    private static void one(String call, Supplier<PureGroups> made, Sentences.Call c, long want, int code) {
        S.refused(call, made, c, want, code);
    }

    /** It answers the number itself. */
    private static void near(String call, Supplier<PureGroups> made, Sentences.Call c, int code) {
        S.refused(call, made, c, code, code >= -6 ? code : 0);
    }

    private static void far(String call, Supplier<PureGroups> made, Sentences.Call c, int code) {
        S.refused(call, made, c, FAR - code, code >= -6 ? code : 0);
    }

    private static void farLong(String call, Supplier<PureGroups> made, Sentences.Call c, int code) {
        S.refused(call, made, c, FAR_LONG - code, code >= -6 ? code : 0);
    }

    // ---- fractions

    private static void dueFraction(String what, long above, long below, long wantAbove, long wantBelow) {
        S.due(what + ", above", above, wantAbove);
        S.due(what + ", below", below, wantBelow);
    }

    private static void fractions() {
        S.says(PART, "Fractions are told in least terms, the sign above the line; 0 as 0 by 1.");
        PureGroups x = rich();
        dueFraction("cover() 1 / 2", x.cover(0, 0, 0), x.cover(0, 0, 1), 1, 2);
        dueFraction("cover() -1 / 2", x.cover(0, 1, 0), x.cover(0, 1, 1), -1, 2);
        dueFraction("cover() 0", x.cover(0, 2, 0), x.cover(0, 2, 1), 0, 1);
        Check.list(x, 0, -1, 6, -4, 9);
        dueFraction("cover() 6 / 2", x.cover(0, 0, 0), x.cover(0, 0, 1), 3, 1);
        dueFraction("cover() -4 / 2", x.cover(0, 1, 0), x.cover(0, 1, 1), -2, 1);
        dueFraction("cover() 9 / 1", x.cover(0, 2, 0), x.cover(0, 2, 1), 9, 1);
        dueFraction("odds() 3 / 4", x.odds(0), x.odds(1), 3, 4);
        x.turn(2, 4);
        dueFraction("odds() 2 / 4", x.odds(0), x.odds(1), 1, 2);
        x.undo();
        dueFraction("must() 2 / 2", x.must(1, 1, 2, 0), x.must(1, 1, 2, 1), 1, 1);
        dueFraction("must() -2 / 2", x.must(1, 1, 3, 0), x.must(1, 1, 3, 1), -1, 1);
        dueFraction("must() 0 / 2", x.must(1, 1, 5, 0), x.must(1, 1, 5, 1), 0, 1);
        x.scale(0, 3, 8);
        dueFraction("must() -3 / 2", x.must(1, 1, 2, 0), x.must(1, 1, 2, 1), -3, 2);
        dueFraction("must() 1 / 2", x.must(1, 1, 3, 0), x.must(1, 1, 3, 1), 1, 2);
        dueFraction("scaled() 3 / 8", x.scaled(0, 0), x.scaled(0, 1), 3, 8);
        x.scale(0, 96, 84);
        dueFraction("scaled() 96 / 84", x.scaled(0, 0), x.scaled(0, 1), 8, 7);
        x.scale(0, 99, 99);
        dueFraction("scaled() 99 / 99", x.scaled(0, 0), x.scaled(0, 1), 1, 1);
        x.scale(0, 33, 99);
        dueFraction("scaled() 33 / 99", x.scaled(0, 0), x.scaled(0, 1), 1, 3);
    }

    // ---- each call

    private static void quantities() {
        near("letter(-1)", RICH, x -> x.letter(-1), -4);
        near("letter(256)", RICH, x -> x.letter(256), -6);
        near("letter(-1) of 72", FULL, x -> x.letter(-1), -4);
        near("letter(256) of 72", FULL, x -> x.letter(256), -6);
        near("letter(0) of 72", FULL, x -> x.letter(0), -6);
        near("quantity(-1)", RICH, x -> x.quantity(-1), -2);
        near("quantity(6)", RICH, x -> x.quantity(6), -2);
        near("quantity(6) of eight", FULL, x -> x.quantity(6), -2);
        near("quantity(-1) of eight", FULL, x -> x.quantity(-1), -2);
        near("quantity(0) of eight", FULL, x -> x.quantity(0), -6);
        int[] values = {0, -10, 10};
        for (int v : values) {
            far("tell(4, 0, " + v + ")", RICH, x -> x.tell(4, 0, v), -1);
            far("tell(-1, 0, " + v + ")", RICH, x -> x.tell(-1, 0, v), -1);
            far("tell(0, 5, " + v + ")", RICH, x -> x.tell(0, 5, v), -1);
            far("tell(0, -1, " + v + ")", RICH, x -> x.tell(0, -1, v), -1);
            far("tell(8, 5, " + v + ")", FULL, x -> x.tell(8, 5, v), -1);
        }
        far("tell(0, 0, -10)", RICH, x -> x.tell(0, 0, -10), -4);
        far("tell(0, 0, 10)", RICH, x -> x.tell(0, 0, 10), -6);
        far("tell(3, 4, least)", RICH, x -> x.tell(3, 4, MIN), -4);
        far("tell(3, 4, greatest)", RICH, x -> x.tell(3, 4, MAX), -6);
        int[] kinds = {0, -1, 6};
        for (int kind : kinds) {
            near("turn(4, " + kind + ")", RICH, x -> x.turn(4, kind), -1);
            near("turn(-1, " + kind + ")", RICH, x -> x.turn(-1, kind), -1);
            near("taken(4, " + kind + ")", RICH, x -> x.taken(4, kind), -1);
            near("taken(-1, " + kind + ")", RICH, x -> x.taken(-1, kind), -1);
        }
        near("turn(0, -1)", RICH, x -> x.turn(0, -1), -2);
        near("turn(0, 6)", RICH, x -> x.turn(0, 6), -2);
        near("taken(0, -1)", RICH, x -> x.taken(0, -1), -2);
        near("taken(0, 6)", RICH, x -> x.taken(0, 6), -2);
        near("taken(0, 1)", RICH, x -> x.taken(0, 1), -16);
        far("of(4, 0)", RICH, x -> x.of(4, 0), -1);
        far("of(-1, 3)", RICH, x -> x.of(-1, 3), -1);
        int[] whats = {-1, 3, 9, 15, 19, 25, MIN, MAX};
        for (int what : whats) {
            far("of(4, " + what + ")", RICH, x -> x.of(4, what), -1);
            far("of(3, " + what + ")", RICH, x -> x.of(3, what), -2);
        }
        near("twin(4)", RICH, x -> x.twin(4), -1);
        near("twin(-1)", RICH, x -> x.twin(-1), -1);
        one("twin(0), -9", RICH, x -> x.twin(0), -9, 0);
    }

    private static void groups() {
        near("rank(-1)", RICH, x -> x.rank(-1), -2);
        near("rank(4)", RICH, x -> x.rank(4), -2);
        far("group(3, 0)", RICH, x -> x.group(3, 0), -1);
        far("group(-1, 0)", RICH, x -> x.group(-1, 0), -1);
        far("group(0, 4)", RICH, x -> x.group(0, 4), -1);
        far("group(0, -1)", RICH, x -> x.group(0, -1), -1);
        near("pure(3)", RICH, x -> x.pure(3), -1);
        near("pure(-1)", RICH, x -> x.pure(-1), -1);
        near("pure(2)", RICH, x -> x.pure(2), -11);
        near("pure(1)", RICH, x -> x.pure(1), -3);
        int[] parts = {0, 1, 2, -1};
        for (int part : parts) {
            farLong("cover(3, 0, " + part + ")", RICH, x -> x.cover(3, 0, part), -1);
            farLong("cover(-1, 0, " + part + ")", RICH, x -> x.cover(-1, 0, part), -1);
            farLong("cover(0, 3, " + part + ")", RICH, x -> x.cover(0, 3, part), -1);
            farLong("cover(1, 3, " + part + ")", RICH, x -> x.cover(1, 3, part), -1);
            farLong("cover(2, -1, " + part + ")", RICH, x -> x.cover(2, -1, part), -1);
            int code = part == 0 || part == 1 ? 0 : -2;
            farLong("cover(2, 0, " + part + ")", RICH, x -> x.cover(2, 0, part), code == 0 ? -11 : code);
            farLong("cover(1, 2, " + part + ")", RICH, x -> x.cover(1, 2, part), code == 0 ? -3 : code);
        }
        farLong("cover() of what isn't PURE", RefusalsTest::notPure, x -> x.cover(0, 0, 0), -3);
        farLong("cover() of what isn't PURE, no part", RefusalsTest::notPure, x -> x.cover(0, 0, 2), -2);
        far("least(-2)", RICH, x -> x.least(-2), -1);
        far("least(4)", RICH, x -> x.least(4), -1);
        far("least(0) of none", EMPTY, x -> x.least(0), -1);
    }

    private static PureGroups notPure() {
        PureGroups x = rich();
        x.put(0, 0, 1);
        return x;
    }

    private static void sets() {
        int[] noSets = {16, -1, 17, MIN, MAX};
        for (int set : noSets) {
            near("may(" + set + ")", RICH, x -> x.may(set), -1);
            far("rest(" + set + ", 1, 1)", RICH, x -> x.rest(set, 1, 1), -1);
            farLong("sizes(" + set + ")", RICH, x -> x.sizes(set), -1);
            farLong("must(" + set + ", 1, 4, 2)", RICH, x -> x.must(set, 1, 4, 2), -1);
            near("whole(" + set + ", 1)", RICH, x -> x.whole(set, 1), -1);
            near("off(" + set + ")", RICH, x -> x.off(set), -1);
        }
        int[] good = {1, 0, 8, 7};
        int[] inside = {0, -1, 3, 2};
        for (int i = 0; i < 4; i++) {
            int set = good[i];
            int q = inside[i];
            far("rest(" + set + ", " + q + ", 0)", RICH, x -> x.rest(set, q, 0), -1);
            far("rest(" + set + ", 4, 0)", RICH, x -> x.rest(set, 4, 0), -1);
            int out = i == 0 ? 1 : i == 3 ? 3 : 0;
            far("rest(" + set + ", " + out + ", 4)", RICH, x -> x.rest(set, out, 4), -1);
            far("rest(" + set + ", " + out + ", -1)", RICH, x -> x.rest(set, out, -1), -1);
            if (i > 0) {
                far("rest(" + set + ", " + out + ", 0)", RICH, x -> x.rest(set, out, 0), -3);
                farLong("sizes(" + set + ")", RICH, x -> x.sizes(set), -3);
            }
        }
        near("sets(-1)", RICH, x -> x.sets(-1), -2);
        near("sets(3)", RICH, x -> x.sets(3), -2);
        farLong("odds(-1)", RICH, x -> x.odds(-1), -2);
        farLong("odds(2)", RICH, x -> x.odds(2), -2);
    }

    private static void scales() {
        int[][] both = {{1, 1}, {-1, 1}, {1, 0}, {100, 1}, {1, 100}, {-1, 100}, {0, 0}};
        for (int[] ab : both) {
            near("scale(4, " + ab[0] + ", " + ab[1] + ")", RICH, x -> x.scale(4, ab[0], ab[1]), -1);
            near("scale(-1, " + ab[0] + ", " + ab[1] + ")", RICH, x -> x.scale(-1, ab[0], ab[1]), -1);
        }
        int[][] below = {{-1, 1}, {-1, 100}, {-1, 0}, {1, 0}, {100, 0}, {100, -1}, {1, -1}, {MIN, 1}, {1, MIN}, {MAX, MIN}, {MIN, MAX}};
        for (int[] ab : below) {
            near("scale(0, " + ab[0] + ", " + ab[1] + ")", RICH, x -> x.scale(0, ab[0], ab[1]), -4);
        }
        int[][] above = {{100, 1}, {1, 100}, {100, 100}, {MAX, 99}, {99, MAX}};
        for (int[] ab : above) {
            near("scale(0, " + ab[0] + ", " + ab[1] + ")", RICH, x -> x.scale(0, ab[0], ab[1]), -6);
        }
        near("scaled(4, 0)", RICH, x -> x.scaled(4, 0), -1);
        near("scaled(4, 2)", RICH, x -> x.scaled(4, 2), -1);
        near("scaled(-1, -1)", RICH, x -> x.scaled(-1, -1), -1);
        near("scaled(0, 2)", RICH, x -> x.scaled(0, 2), -2);
        near("scaled(1, 2), none", RICH, x -> x.scaled(1, 2), -2);
        near("scaled(1, -1), none", RICH, x -> x.scaled(1, -1), -2);
        one("scaled(1, 0), -9", RICH, x -> x.scaled(1, 0), -9, 0);
        one("alike(), -9", RICH, x -> x.alike(), -9, 0);
        int[] numbers = {0, 1, 4, 98, 99, 101, -2, MIN, MAX};
        for (int prime : numbers) {
            farLong("must(1, 0, " + prime + ", 0)", RICH, x -> x.must(1, 0, prime, 0), -1);
            farLong("must(1, 4, " + prime + ", 2)", RICH, x -> x.must(1, 4, prime, 2), -1);
            farLong("must(1, 1, " + prime + ", 0)", RICH, x -> x.must(1, 1, prime, 0), -2);
            farLong("must(3, 2, " + prime + ", 0)", RICH, x -> x.must(3, 2, prime, 0), -2);
            farLong("must(2, 0, " + prime + ", 1)", RICH, x -> x.must(2, 0, prime, 1), -2);
        }
        farLong("must(1, 1, 2, 2)", RICH, x -> x.must(1, 1, 2, 2), -2);
        farLong("must(1, 1, 2, -1)", RICH, x -> x.must(1, 1, 2, -1), -2);
        farLong("must(3, 2, 2, 2)", RICH, x -> x.must(3, 2, 2, 2), -2);
        farLong("must(3, 2, 2, 0)", RICH, x -> x.must(3, 2, 2, 0), -3);
        farLong("must(2, 0, 2, 0)", RICH, x -> x.must(2, 0, 2, 0), -3);
        int[][] wholes = {{1, 0, -1}, {3, 1, -1}, {2, 1, -1}, {1, 4, -1}, {1, -1, -1}, {3, 2, -3}, {0, 0, -3}, {2, 0, -3}, {8, 0, -3}};
        for (int[] one : wholes) {
            near("whole(" + one[0] + ", " + one[1] + ")", RICH, x -> x.whole(one[0], one[1]), one[2]);
        }
        int[] offs = {0, 2, 3, 4, 8, 15};
        for (int set : offs) {
            near("off(" + set + ")", RICH, x -> x.off(set), -3);
        }
    }

    private static void factors() {
        int[] numbers = {-1, 0, -2, MIN};
        for (int i : numbers) {
            near("fewest(3, " + i + ")", RICH, x -> x.fewest(3, i), -1);
            near("fewest(-1, " + i + ")", RICH, x -> x.fewest(-1, i), -1);
            near("fewest(2, " + i + ")", RICH, x -> x.fewest(2, i), -11);
            near("fewest(1, " + i + ")", RICH, x -> x.fewest(1, i), -3);
        }
        near("fewest(0, -2)", RICH, x -> x.fewest(0, -2), -4);
        near("fewest(0, least)", RICH, x -> x.fewest(0, MIN), -4);
        one("fewest(0, -1), -9", RICH, x -> x.fewest(0, -1), -9, 0);
        one("fewest(0, greatest), -9", RICH, x -> x.fewest(0, MAX), -9, 0);
        near("had(-1)", RICH, x -> x.had(-1), -4);
        near("had(4)", RICH, x -> x.had(4), -6);
        near("had(least)", RICH, x -> x.had(MIN), -4);
        near("had(greatest)", RICH, x -> x.had(MAX), -6);
        int[] whats = {0, 1, 2, -1};
        for (int what : whats) {
            near("lots(0, 1, " + what + ")", RICH, x -> x.lots(0, 1, what), -4);
            near("lots(least, 1, " + what + ")", RICH, x -> x.lots(MIN, 1, what), -4);
            near("lots(51, 1, " + what + ")", RICH, x -> x.lots(51, 1, what), -6);
            near("lots(greatest, 1, " + what + ")", RICH, x -> x.lots(MAX, 1, what), -6);
        }
        near("lots(1, 1, 2)", RICH, x -> x.lots(1, 1, 2), -2);
        near("lots(50, 1, -1)", RICH, x -> x.lots(50, 1, -1), -2);
    }

    private static void formulas() {
        int[] whats = {-1, 3, MIN, MAX};
        for (int what : whats) {
            near("wrong(" + what + ")", RICH, x -> x.wrong(what), -2);
            near("wrong(" + what + "), no FORMULA", EMPTY, x -> x.wrong(what), -2);
            far("sides(" + what + ", 0)", RICH, x -> x.sides(what, 0), -2);
            far("sides(" + what + ", 4), no FORMULA", EMPTY, x -> x.sides(what, 4), -2);
            far("sides(" + what + ", 5)", RICH, x -> x.sides(what, 5), -1);
            far("sides(" + what + ", -1), no FORMULA", EMPTY, x -> x.sides(what, -1), -1);
        }
        for (int what = 0; what < 3; what++) {
            int side = what;
            near("wrong(" + what + "), no FORMULA", EMPTY, x -> x.wrong(side), -3);
            far("sides(" + what + ", 0), no FORMULA", FULL, x -> x.sides(side, 0), -3);
            far("sides(" + what + ", 5), no FORMULA", FULL, x -> x.sides(side, 5), -1);
            far("sides(" + what + ", 5)", RICH, x -> x.sides(side, 5), -1);
            far("sides(" + what + ", -1)", RICH, x -> x.sides(side, -1), -1);
        }
        near("mend(-2)", RICH, x -> x.mend(-2), -4);
        near("mend(-2), no FORMULA", EMPTY, x -> x.mend(-2), -4);
        near("mend(least), no FORMULA", EMPTY, x -> x.mend(MIN), -4);
        near("mend(-1), no FORMULA", EMPTY, x -> x.mend(-1), -3);
        near("mend(0), no FORMULA", FULL, x -> x.mend(0), -3);
        one("mend(1), -9", RICH, x -> x.mend(1), -9, 0);
    }

    private static void lists() {
        int[] noLists = {-1, 3, MIN, MAX};
        for (int list : noLists) {
            near("list(" + list + ", 1)", RICH, x -> x.list(list, 1), -1);
            near("list(" + list + ", 41)", RICH, x -> x.list(list, 41), -1);
            near("list(" + list + ", -1)", RICH, x -> x.list(list, -1), -1);
            near("put(" + list + ", -1, 5)", RICH, x -> x.put(list, -1, 5), -1);
            far("look(" + list + ", -1)", RICH, x -> x.look(list, -1), -1);
            near("lays(" + list + ", -1, 0)", RICH, x -> x.lays(list, -1, 0), -1);
            near("judge(" + list + ")", RICH, x -> x.judge(list), -1);
        }
        near("list(0, 41)", RICH, x -> x.list(0, 41), -6);
        near("list(2, greatest)", RICH, x -> x.list(2, MAX), -6);
        near("list(0, -1)", RICH, x -> x.list(0, -1), -14);
        near("list(2, least)", RICH, x -> x.list(2, MIN), -14);
        int[] places = {-1, 3, 40, MIN, MAX};
        for (int i : places) {
            near("put(2, " + i + ", 5)", RICH, x -> x.put(2, i, 5), -11);
            near("put(0, " + i + ", 5)", RICH, x -> x.put(0, i, 5), -13);
            far("look(2, " + i + ")", RICH, x -> x.look(2, i), -11);
            far("look(0, " + i + ")", RICH, x -> x.look(0, i), -13);
            near("lays(0, " + i + ", 3)", RICH, x -> x.lays(0, i, 3), -1);
            near("lays(2, " + i + ", -1)", RICH, x -> x.lays(2, i, -1), -1);
            near("lays(2, " + i + ", 0)", RICH, x -> x.lays(2, i, 0), -11);
            near("lays(0, " + i + ", 0)", RICH, x -> x.lays(0, i, 0), -13);
        }
        near("put(2, 0, 5)", RICH, x -> x.put(2, 0, 5), -11);
        near("lays(0, 0, 0), four into three places", RICH, x -> x.lays(0, 0, 0), -13);
        near("judge(2)", RICH, x -> x.judge(2), -11);
        near("put(2, 0, 5) of none", FULL, x -> x.put(2, 0, 5), -13);
        far("look(2, 0) of none", FULL, x -> x.look(2, 0), -13);
    }

    private static void image() {
        near("undo() of none", EMPTY, x -> x.undo(), -3);
        near("on() of none", EMPTY, x -> x.on(), -3);
        near("on() of none", RefusalsTest::withoutImage, x -> x.on(), -3);
        int[] whats = {-1, 5, 10, 17, MIN, MAX};
        for (int what : whats) {
            one("count(" + what + "), -9", RICH, x -> x.count(what), -9, 0);
        }
        one("count(3), -9", EMPTY, x -> x.count(3), -9, 0);
    }

    private static PureGroups withoutImage() {
        PureGroups x = new PureGroups();
        Check.quantity(x, 1, 1, 2);
        Check.formula(x, "A=A");
        return x;
    }

    // ---- each number

    private static void nobody() {
        S.says(PART, "-1 NOBODY: no such QUANTITY, UNIT, GROUP, LIST, set (bits of no QUANTITY, below 0), or a QUANTITY in the set that must not be.");
        PureGroups x = rich();
        x.twin(4);
        S.due("no such QUANTITY", x.count(11), 1);
        x.tell(0, 5, 0);
        S.due("no such UNIT", x.count(11), 2);
        x.group(3, 0);
        S.due("no such GROUP", x.count(11), 3);
        x.pure(3);
        S.due("no such LIST", x.count(11), 4);
        x.may(16);
        S.due("bits of no QUANTITY", x.count(11), 5);
        x.may(-1);
        S.due("below 0", x.count(11), 6);
        x.whole(1, 0);
        S.due("a QUANTITY in the set", x.count(11), 7);
        S.due("no others", x.count(12) + x.count(13) + x.count(14) + x.count(15) + x.count(16), 0);
        PureGroups full = full();
        S.due("QUANTITY 7 of eight", full.twin(7) != -1 ? 1 : 0, 1);
        S.due("QUANTITY 8 of eight", full.twin(8), -1);
        S.due("all bits of eight", full.may(255), 0);
        S.due("a bit more", full.may(256), -1);
        S.due("LIST 2", full.pure(2), 1);
        S.due("LIST 3", full.pure(3), -1);
    }

    private static void other() {
        S.says(PART, "-2 OTHER: what, KIND, part, no such prime.");
        PureGroups x = rich();
        x.of(0, 3);
        S.due("what", x.count(12), 1);
        x.quantity(6);
        S.due("KIND", x.count(12), 2);
        x.odds(2);
        S.due("part", x.count(12), 3);
        x.must(1, 1, 9, 0);
        S.due("no such prime", x.count(12), 4);
        x.sides(3, 0);
        S.due("side", x.count(12), 5);
        S.due("no others", x.count(11) + x.count(13) + x.count(14) + x.count(15) + x.count(16), 0);
    }

    private static void state() {
        S.says(PART, "-3 STATE: it is not as it must be.");
        PureGroups x = new PureGroups();
        x.undo();
        x.on();
        x.wrong(0);
        x.sides(0, 0);
        x.mend(0);
        S.due("none is there", x.count(13), 5);
        x.quantity(0);
        x.tell(0, 0, 1);
        x.sizes(0);
        x.must(0, 0, 2, 0);
        x.off(1);
        S.due("not CHOSEN, no SCALE", x.count(13), 8);
        x.list(0, 1);
        x.put(0, 0, 100);
        x.pure(0);
        x.fewest(0, 0);
        S.due("a number that may not be", x.count(13), 10);
        S.due("no others", x.count(11) + x.count(12) + x.count(14) + x.count(15) + x.count(16), 0);
    }

    private static void below() {
        S.says(PART, "-4 BELOW: a number below the least.");
        PureGroups x = rich();
        S.due("the least letter", x.letter(0), 2);
        S.due("below", x.letter(-1), -4);
        S.due("the least TOLD power", x.tell(0, 0, -9), 2);
        S.due("below", x.tell(0, 0, -10), FAR + 4);
        S.due("the least above", x.scale(0, 0, 1), 1);
        S.due("below", x.scale(0, -1, 1), -4);
        S.due("the least below", x.scale(0, 1, 1), 1);
        S.due("below", x.scale(0, 1, 0), -4);
        S.due("the least i", x.fewest(0, -1), -9);
        S.due("below", x.fewest(0, -2), -4);
        S.due("the least n", x.had(0), 1);
        S.due("below", x.had(-1), -4);
        S.due("the least i", x.mend(-1), 2);
        S.due("below", x.mend(-2), -4);
        S.due("the least n", x.lots(1, 0, 0) >= 0 ? 1 : 0, 1);
        S.due("below", x.lots(0, 0, 0), -4);
        S.due("how many", x.count(14), 8);
        S.due("no others", x.count(11) + x.count(12) + x.count(13) + x.count(15) + x.count(16), 0);
    }

    private static void room() {
        S.says(PART, "-6 ROOM: a number above the greatest, no room.");
        PureGroups x = rich();
        S.due("the greatest letter", x.letter(255), 2);
        S.due("above", x.letter(256), -6);
        S.due("the greatest TOLD power", x.tell(0, 0, 9), 2);
        S.due("above", x.tell(0, 0, 10), FAR + 6);
        S.due("the greatest SCALE", x.scale(0, 99, 99), 1);
        S.due("above", x.scale(0, 100, 99), -6);
        S.due("above", x.scale(0, 99, 100), -6);
        S.due("the greatest n", x.had(3) > 1 ? 1 : 0, 1);
        S.due("above", x.had(4), -6);
        S.due("the greatest n", x.lots(50, 0, 0) >= 0 ? 1 : 0, 1);
        S.due("above", x.lots(51, 0, 0), -6);
        S.due("the greatest LIST", x.list(0, 40), 1);
        S.due("above", x.list(0, 41), -6);
        S.due("how many", x.count(16), 7);
        S.due("no others", x.count(11) + x.count(12) + x.count(13) + x.count(14) + x.count(15), 0);
        PureGroups y = full();
        y.quantity(0);
        y.letter('A');
        S.due("no room", y.count(16), 2);
    }

    private static void far() {
        S.says(PART, "Where it is said \"refused far\" the answer is 1000000000 less them (-1 as 1000000001),"
            + " of longs 4000000000000000000 less them (-1 as 4000000000000000001); of -11, -13 likewise.");
        PureGroups x = rich();
        S.due("tell(), -1", x.tell(9, 0, 0), 1000000001);
        S.due("tell(), -4", x.tell(0, 0, -10), 1000000004);
        S.due("tell(), -6", x.tell(0, 0, 10), 1000000006);
        S.due("of(), -1", x.of(9, 0), 1000000001);
        S.due("of(), -2", x.of(0, 3), 1000000002);
        S.due("group(), -1", x.group(0, 9), 1000000001);
        S.due("least(), -1", x.least(9), 1000000001);
        S.due("rest(), -1", x.rest(1, 0, 0), 1000000001);
        S.due("rest(), -3", x.rest(3, 2, 0), 1000000003);
        S.due("sides(), -1", x.sides(0, 9), 1000000001);
        S.due("sides(), -2", x.sides(3, 0), 1000000002);
        S.due("sides(), -3", new PureGroups().sides(0, 0), 1000000003);
        S.due("look(), -1", x.look(3, 0), 1000000001);
        S.due("look(), -11", x.look(2, 0), 1000000011);
        S.due("look(), -13", x.look(0, 3), 1000000013);
        S.due("cover(), -1", x.cover(3, 0, 0), 4000000000000000001L);
        S.due("cover(), -2", x.cover(0, 0, 2), 4000000000000000002L);
        S.due("cover(), -3", x.cover(1, 0, 0), 4000000000000000003L);
        S.due("cover(), -11", x.cover(2, 0, 0), 4000000000000000011L);
        S.due("sizes(), -1", x.sizes(16), 4000000000000000001L);
        S.due("sizes(), -3", x.sizes(3), 4000000000000000003L);
        S.due("odds(), -2", x.odds(2), 4000000000000000002L);
        S.due("must(), -1", x.must(1, 0, 2, 0), 4000000000000000001L);
        S.due("must(), -2", x.must(1, 1, 4, 0), 4000000000000000002L);
        S.due("must(), -3", x.must(2, 0, 2, 0), 4000000000000000003L);
        S.due("NOBODY", x.count(11), 10);
        S.due("OTHER", x.count(12), 5);
        S.due("STATE", x.count(13), 4);
        S.due("BELOW", x.count(14), 1);
        S.due("-5", x.count(15), 0);
        S.due("ROOM", x.count(16), 1);
    }

    private static void notCounted() {
        S.says(PART, "Not counted: of LISTS -11 it is missing, -13 no such place, -14 a size below 0; of a QUANTITY -16 it is of another KIND.");
        PureGroups x = rich();
        S.due("pure()", x.pure(2), -11);
        S.due("cover()", x.cover(2, 0, 0), 4000000000000000011L);
        S.due("fewest()", x.fewest(2, 0), -11);
        S.due("put()", x.put(2, 0, 0), -11);
        S.due("look()", x.look(2, 0), 1000000011);
        S.due("lays()", x.lays(2, 0, 0), -11);
        S.due("judge()", x.judge(2), -11);
        S.due("put()", x.put(0, 3, 0), -13);
        S.due("look()", x.look(0, 3), 1000000013);
        S.due("lays()", x.lays(0, 0, 0), -13);
        S.due("list()", x.list(0, -1), -14);
        S.due("taken()", x.taken(0, 5), -16);
        S.due("a FAULT", x.formula(), -1001);
        S.due("none of another KIND", x.twin(0), -9);
        for (int what = 11; what <= 16; what++) {
            S.due("count(" + what + ")", x.count(what), 0);
        }
    }
}
