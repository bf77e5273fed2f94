import java.util.Random;

/** Long runs of drawn calls (always the same ones) on the program and on the oracle. */
public final class OracleTest {
    private static final int MOST_CALLS = 512;

    private final Random random;
    private final Check check;
    private final int run;
    private final PureGroups x = new PureGroups();
    private final Oracle o = new Oracle();
    /** How far told powers go in this run: small ones make many PURE PRODUCTS. */
    private final int reach;
    private final int most;
    private int calls;

    private OracleTest(int run, Check check) {
        this.run = run;
        this.check = check;
        random = new Random(7000 + run);
        reach = new int[] {1, 2, 3, 9}[random.nextInt(4)];
        most = 1 + random.nextInt(8);
    }

    public static void main(String[] args) {
        int runs = args.length > 0 ? Integer.parseInt(args[0]) : 150;
        int from = args.length > 1 ? Integer.parseInt(args[1]) : 0;
        Check check = new Check("OracleTest");
        for (int run = from; run < from + runs && check.wrong() < 20; run++) {
            new OracleTest(run, check).go();
        }
        check.finish();
    }

    private void due(String call, long got, long want) {
        calls++;
        // Later answers of an object are free.
        if (calls <= MOST_CALLS) {
            check.due("run " + run + " call " + calls + " " + call, got, want);
        }
    }

    private int draw(int from, int to) {
        return from + random.nextInt(to - from + 1);
    }

    /** Mostly from .. to, at times just outside, at times an extreme. */
    private int wild(int from, int to) {
        int kind = random.nextInt(40);
        if (kind == 0) {
            return new int[] {Integer.MIN_VALUE, Integer.MAX_VALUE, -1, 1 << 30, 1000, -1000}[random.nextInt(6)];
        }
        if (kind == 1) {
            return random.nextBoolean() ? from - 1 : to + 1;
        }
        return draw(from, to);
    }

    private int quantity() {
        return wild(0, Math.max(0, o.count(0) - 1));
    }

    private int set() {
        if (random.nextInt(4) > 0) {
            return o.sets(1 + random.nextInt(2));
        }
        return wild(0, (1 << o.count(0)) - 1);
    }

    private void go() {
        int first = draw(0, most);
        for (int i = 0; i < first; i++) {
            addQuantity();
        }
        while (calls < MOST_CALLS) {
            step(random.nextInt(30));
        }
    }

    private void addQuantity() {
        int kind = random.nextInt(3) == 0 ? wild(0, 5) : 0;
        due("quantity(" + kind + ")", x.quantity(kind), o.quantity(kind));
        int units = draw(1, 5);
        for (int unit = 0; unit < units; unit++) {
            if (random.nextInt(3) > 0) {
                tell(o.count(0) - 1, unit, draw(-reach, reach));
            }
        }
    }

    private void tell(int q, int unit, int v) {
        due("tell(" + q + ", " + unit + ", " + v + ")", x.tell(q, unit, v), o.tell(q, unit, v));
    }

    private void step(int kind) {
        switch (kind) {
            case 0: if (o.count(0) < most || random.nextInt(20) == 0) { addQuantity(); } break;
            case 1: case 2: tell(quantity(), wild(0, 4), random.nextInt(4) == 0 ? wild(-9, 9) : draw(-reach, reach)); break;
            case 3: turn(); break;
            case 4: case 5: ofOne(); break;
            case 6: case 7: groups(); break;
            case 8: lists(); break;
            case 9: products(); break;
            case 10: leasts(); break;
            case 11: case 12: sets(); break;
            case 13: case 14: case 15: scales(); break;
            case 16: case 17: musts(); break;
            case 18: factors(); break;
            case 19: case 20: case 21: formula(); break;
            case 22: case 23: wrongs(); break;
            case 24: lots(); break;
            case 25: puts(); break;
            case 26: lays(); break;
            case 27: undos(); break;
            case 28: images(); break;
            default: counts(); break;
        }
    }

    private void turn() {
        int q = quantity();
        int kind = random.nextInt(2) == 0 ? 0 : wild(0, 5);
        due("turn(" + q + ", " + kind + ")", x.turn(q, kind), o.turn(q, kind));
        due("taken(" + q + ", " + kind + ")", x.taken(q, kind), o.taken(q, kind));
    }

    private void ofOne() {
        int q = quantity();
        int what = random.nextInt(10) == 0 ? wild(0, 30) : new int[] {0, 1, 2, 10, 14, 20, 21, 22, 24}[random.nextInt(9)];
        due("of(" + q + ", " + what + ")", x.of(q, what), o.of(q, what));
        int kind = wild(0, 5);
        due("taken(" + q + ", " + kind + ")", x.taken(q, kind), o.taken(q, kind));
        due("twin(" + q + ")", x.twin(q), o.twin(q));
    }

    private void groups() {
        int what = wild(0, 3);
        due("rank(" + what + ")", x.rank(what), o.rank(what));
        int i = wild(0, Math.max(0, o.rank(1) - 1));
        int q = quantity();
        due("group(" + i + ", " + q + ")", x.group(i, q), o.group(i, q));
    }

    private void lists() {
        int list = wild(0, 2);
        int n = random.nextInt(3) == 0 ? wild(0, 40) : draw(0, 12);
        due("list(" + list + ", " + n + ")", x.list(list, n), o.list(list, n));
    }

    private void puts() {
        int list = wild(0, 2);
        int size = draw(0, 10);
        if (random.nextInt(3) == 0) {
            due("list(" + list + ", " + size + ")", x.list(list, size), o.list(list, size));
        }
        for (int i = 0; i < size; i++) {
            int at = wild(0, 9);
            int v = random.nextInt(12) == 0 ? wild(-99, 99) : draw(-reach, reach);
            if (random.nextInt(3) == 0 && at >= 0 && o.count(0) > at / 5) {
                v = o.of(at / 5, 20 + at % 5);
            }
            put(list, at, v);
        }
        due("judge(" + list + ")", x.judge(list), o.judge(list));
        int at = wild(0, 10);
        due("look(" + list + ", " + at + ")", x.look(list, at), o.look(list, at));
        products();
    }

    private void put(int list, int at, int v) {
        due("put(" + list + ", " + at + ", " + v + ")", x.put(list, at, v), o.put(list, at, v));
    }

    private void lays() {
        int list = wild(0, 2);
        int i = random.nextInt(3) == 0 ? wild(0, 40) : 0;
        int group = wild(0, Math.max(0, o.rank(1) - 1));
        due("lays(" + list + ", " + i + ", " + group + ")", x.lays(list, i, group), o.lays(list, i, group));
        int times = draw(-3, 3);
        for (int k = 0; k < o.count(0) && o.rank(1) > 0 && times != 0; k++) {
            int at = k;
            int other = draw(0, Math.max(0, o.rank(1) - 1));
            long v = o.ask(() -> o.look(list, at)) + (long) times * o.ask(() -> o.group(other, at));
            if (Math.abs(v) <= 99) {
                put(list, at, (int) v);
            }
        }
        for (int k = 0; k < 3; k++) {
            covers(list);
        }
        due("look", x.look(list, i), o.look(list, i));
    }

    private void covers(int list) {
        int group = wild(0, Math.max(0, o.rank(1) - 1));
        int part = wild(0, 1);
        due("cover(" + list + ", " + group + ", " + part + ")", x.cover(list, group, part), o.cover(list, group, part));
        due("pure(" + list + ")", x.pure(list), o.pure(list));
    }

    private void products() {
        int list = wild(0, 2);
        covers(list);
        int i = wild(-1, 3);
        due("fewest(" + list + ", " + i + ")", x.fewest(list, i), o.fewest(list, i));
        if (random.nextInt(4) == 0) {
            due("box()", x.box(), o.box());
        }
    }

    private void leasts() {
        if (o.count(0) > 6 && random.nextInt(3) > 0) {
            return;
        }
        int q = wild(-1, Math.max(0, o.count(0) - 1));
        due("least(-1)", x.least(-1), o.least(-1));
        due("least(" + q + ")", x.least(q), o.least(q));
    }

    private void sets() {
        int what = wild(0, 2);
        due("sets(" + what + ")", x.sets(what), o.sets(what));
        int set = set();
        due("may(" + set + ")", x.may(set), o.may(set));
        due("sizes(" + set + ")", x.sizes(set), o.sizes(set));
        int q = quantity();
        int p = quantity();
        due("rest(" + set + ", " + q + ", " + p + ")", x.rest(set, q, p), o.rest(set, q, p));
        int part = wild(0, 1);
        due("odds(" + part + ")", x.odds(part), o.odds(part));
    }

    private void scales() {
        boolean plain = random.nextInt(3) > 0;
        for (int q = 0; q < o.count(0) + 1; q++) {
            int above = plain ? draw(1, 12) : wild(0, 99);
            int below = plain ? draw(1, 12) : wild(1, 99);
            if (random.nextInt(3) > 0) {
                due("scale(" + q + ", " + above + ", " + below + ")", x.scale(q, above, below), o.scale(q, above, below));
            }
        }
        int q = quantity();
        int part = wild(0, 1);
        due("scaled(" + q + ", " + part + ")", x.scaled(q, part), o.scaled(q, part));
        due("alike()", x.alike(), o.alike());
        musts();
    }

    private void musts() {
        int set = set();
        int q = quantity();
        int prime = random.nextInt(4) == 0 ? wild(0, 99) : new int[] {2, 3, 5, 7, 97}[random.nextInt(5)];
        int part = wild(0, 1);
        due("must(" + set + ", " + q + ", " + prime + ", " + part + ")", x.must(set, q, prime, part), o.must(set, q, prime, part));
        due("whole(" + set + ", " + q + ")", x.whole(set, q), o.whole(set, q));
        due("off(" + set + ")", x.off(set), o.off(set));
        due("alike()", x.alike(), o.alike());
    }

    private void factors() {
        int n = wild(0, 3);
        if (o.count(0) < 6 || n < 3 || random.nextInt(4) == 0) {
            due("had(" + n + ")", x.had(n), o.had(n));
        }
        products();
    }

    private String atom(int deep) {
        int kind = random.nextInt(deep > 0 ? 7 : 4);
        if (kind < 3) {
            return "" + (char) ('A' + draw(0, Math.max(0, o.count(0) - 1)));
        }
        if (kind == 3) {
            return "" + draw(0, random.nextBoolean() ? 9 : 999);
        }
        return (kind == 6 ? "s(" : "(") + sum(deep - 1) + ")";
    }

    private String part(int deep) {
        String atom = atom(deep);
        int kind = random.nextInt(8);
        return kind > 1 ? atom : atom + (kind == 0 ? "^" : "^-") + draw(0, 9);
    }

    private String sum(int deep) {
        StringBuilder text = new StringBuilder(part(deep));
        while (random.nextInt(5) < 2) {
            text.append("+-*/".charAt(random.nextInt(4))).append(part(deep));
        }
        return text.toString();
    }

    private void formula() {
        String text = sum(draw(0, 7)) + "=" + sum(draw(0, 7));
        int kind = random.nextInt(6);
        if (kind == 0) {
            int at = random.nextInt(text.length());
            text = text.substring(0, at) + "AI0+-*/^()s=x((".charAt(random.nextInt(15)) + text.substring(at + random.nextInt(2));
        } else if (kind == 1) {
            text = text.substring(0, random.nextInt(text.length() + 1));
        } else if (kind == 2) {
            text = "(((((((ssss".substring(random.nextInt(8), 7 + random.nextInt(4)) + text;
        }
        if (text.length() > 40 && random.nextInt(4) > 0) {
            return;
        }
        for (int i = 0; i < text.length(); i++) {
            due("letter(" + text.charAt(i) + ")", x.letter(text.charAt(i)), o.letter(text.charAt(i)));
        }
        if (random.nextInt(10) == 0) {
            int c = wild(0, 255);
            due("letter(" + c + ")", x.letter(c), o.letter(c));
        }
        due("formula() of " + text, x.formula(), o.formula());
        wrongs();
    }

    private void wrongs() {
        int what = wild(0, 2);
        due("wrong(" + what + ")", x.wrong(what), o.wrong(what));
        int side = wild(0, 2);
        int unit = wild(0, 4);
        due("sides(" + side + ", " + unit + ")", x.sides(side, unit), o.sides(side, unit));
        int i = wild(-1, 2);
        if (random.nextInt(3) == 0) {
            due("mend(" + i + ")", x.mend(i), o.mend(i));
        }
        due("count(3)", x.count(3), o.count(3));
    }

    private void lots() {
        int n = wild(1, 50);
        int z = random.nextInt();
        int what = wild(0, 1);
        due("lots(" + n + ", " + z + ", " + what + ")", x.lots(n, z, what), o.lots(n, z, what));
    }

    private void undos() {
        int times = random.nextInt(4) == 0 ? 25 : draw(1, 3);
        for (int i = 0; i < times; i++) {
            due("undo()", x.undo(), o.undo());
        }
        for (int q = 0; q < o.count(0); q++) {
            due("of", x.of(q, 20 + q % 5), o.of(q, 20 + q % 5));
            due("of", x.of(q, 0), o.of(q, 0));
            due("scaled", x.scaled(q, 0), o.scaled(q, 0));
        }
    }

    private void images() {
        if (random.nextInt(2) == 0) {
            due("image()", x.image(), o.image());
        } else {
            due("on()", x.on(), o.on());
        }
    }

    private void counts() {
        for (int what = -1; what <= 17; what++) {
            if (what < 5 || what > 9) {
                due("count(" + what + ")", x.count(what), o.count(what));
            }
        }
    }
}
