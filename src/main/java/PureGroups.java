import java.util.Arrays;

/**
 * Units grouped until none is left: quantities with powers of five units, the pure products of
 * them, sets chosen to repeat, scales, factors, formulas, lists, changes undone, an image.
 * The words in capitals are those of the document.
 */
public final class PureGroups {

    private static final int UNITS = 5;
    private static final int MOST_QUANTITIES = 8;
    private static final int KINDS = 6;
    private static final int MOST_TOLD = 9;
    private static final int MOST_SCALE = 99;
    private static final int MOST_SIZE = 6;
    private static final int MOST_FACTORS = 3;
    private static final int MOST_LOTS = 50;
    private static final int MOST_LETTERS = 72;
    private static final int MOST_LETTER = 255;
    private static final int MOST_OPEN = 6;
    private static final int LISTS = 3;
    private static final int MOST_PLACES = 40;
    private static final int MOST_NUMBER = 99;
    private static final int MOST_UNDONE = 20;

    private static final int NOBODY = -1;
    private static final int OTHER = -2;
    private static final int STATE = -3;
    private static final int BELOW = -4;
    private static final int ROOM = -6;
    private static final int NONE = -9;
    private static final int MISSING = -11;
    private static final int NO_PLACE = -13;
    private static final int NO_SIZE = -14;
    private static final int OTHER_KIND = -16;
    private static final int FAULT = -1000;
    private static final int FAR = 1000000000;
    private static final long FAR_LONG = 4000000000000000000L;

    // By KIND: the KIND it is under, what UNITS 1 and 2 have less than TOLD, how often it is taken.
    private static final int[] UNDER = {-1, 0, 0, 1, 0, 2};
    private static final int[] LESS_OF_UNIT_1 = {0, 0, 1, 2, 0, 1};
    private static final int[] LESS_OF_UNIT_2 = {0, 1, 0, 1, 0, 0};
    private static final int[] TIMES = {1, 1, 1, 1, 0, 2};

    private static final int[] PRIMES = {
        2, 3, 5, 7, 11, 13, 17, 19, 23, 29, 31, 37, 41, 43, 47, 53, 59, 61, 67, 71, 73, 79, 83, 89, 97
    };

    private final Model model = new Model();
    private final Model image = new Model();
    private boolean imageTaken;
    private final History history = new History();
    private final Space space = new Space();
    private final Choice choice = new Choice(space);
    private final Search search = new Search(space);
    private final Reading reading = new Reading(space);
    private final int[] letters = new int[MOST_LETTERS];
    private int letterCount;
    private final int[][] lists = new int[LISTS][MOST_PLACES];
    private final int[] listSizes = {MISSING, MISSING, MISSING};
    private final int[] powers = new int[MOST_QUANTITIES];
    private final int[] product = new int[MOST_QUANTITIES];
    private final int[] dimension = new int[UNITS];
    private final int[] refusals = new int[1 - ROOM];

    public PureGroups() {
    }

    // ---- quantities

    public int letter(int c) {
        if (c < 0) {
            return refused(BELOW);
        }
        if (c > MOST_LETTER || letterCount >= MOST_LETTERS) {
            return refused(ROOM);
        }
        letters[letterCount] = c;
        letterCount++;
        return letterCount;
    }

    public int quantity(int kind) {
        if (!isKind(kind)) {
            return refused(OTHER);
        }
        if (model.size >= MOST_QUANTITIES) {
            return refused(ROOM);
        }
        model.add(kind);
        history.forget();
        space.measure(model);
        return model.size - 1;
    }

    public int tell(int q, int unit, int v) {
        if (!isQuantity(q) || !isUnit(unit)) {
            return refusedFar(NOBODY);
        }
        if (v < -MOST_TOLD) {
            return refusedFar(BELOW);
        }
        if (v > MOST_TOLD) {
            return refusedFar(ROOM);
        }
        int was = model.told[q][unit];
        history.note(History.TOLD, q, unit, was);
        model.told[q][unit] = v;
        space.measure(model);
        return was;
    }

    public int turn(int q, int kind) {
        if (!isQuantity(q)) {
            return refused(NOBODY);
        }
        if (!isKind(kind)) {
            return refused(OTHER);
        }
        int was = model.kind[q];
        history.note(History.TURNED, q, was, 0);
        model.kind[q] = kind;
        space.measure(model);
        return was;
    }

    public int of(int q, int what) {
        if (!isQuantity(q)) {
            return refusedFar(NOBODY);
        }
        if (what == 0) {
            return model.kind[q];
        }
        if (what == 1) {
            return bit(space.looseSet(), q);
        }
        if (what == 2) {
            return isPure(space.power[q]) ? 1 : 0;
        }
        if (what >= 10 && isUnit(what - 10)) {
            return model.told[q][what - 10];
        }
        if (what >= 20 && isUnit(what - 20)) {
            return space.power[q][what - 20];
        }
        return refusedFar(OTHER);
    }

    public int twin(int q) {
        if (!isQuantity(q)) {
            return refused(NOBODY);
        }
        for (int other = 0; other < space.size; other++) {
            if (other != q && space.key[other] == space.key[q]) {
                return other;
            }
        }
        return NONE;
    }

    public int taken(int q, int kind) {
        if (!isQuantity(q)) {
            return refused(NOBODY);
        }
        if (!isKind(kind)) {
            return refused(OTHER);
        }
        int above = model.kind[q];
        for (int step = 0; step < KINDS && isKind(above); step++) {
            if (above == kind) {
                return model.kind[q];
            }
            above = UNDER[above];
        }
        return OTHER_KIND;
    }

    // ---- groups

    public int rank(int what) {
        if (what == 0) {
            return space.all.rank;
        }
        if (what == 1) {
            return space.size - space.all.rank;
        }
        if (what == 2) {
            return space.looseSet();
        }
        return what == 3 ? space.differentDimensions() : refused(OTHER);
    }

    public int group(int i, int q) {
        if (!isGroup(i) || !isQuantity(q)) {
            return refusedFar(NOBODY);
        }
        space.all.relation(space.looseAt(i), powers);
        return powers[q];
    }

    public int pure(int list) {
        if (!isList(list)) {
            return refused(NOBODY);
        }
        if (isMissing(list)) {
            return MISSING;
        }
        if (!takeNumbers(list, model.size, product)) {
            return refused(STATE);
        }
        return space.isPureProduct(product) ? 1 : 0;
    }

    public long cover(int list, int i, int part) {
        if (!isList(list) || !isGroup(i)) {
            return refusedFarLong(NOBODY);
        }
        if (!isPart(part)) {
            return refusedFarLong(OTHER);
        }
        if (isMissing(list)) {
            return refusedFarLong(MISSING);
        }
        if (!takeNumbers(list, model.size, product) || !space.isPureProduct(product)) {
            return refusedFarLong(STATE);
        }
        // No other GROUP has this LOOSE QUANTITY, so its power comes from this GROUP alone.
        int loose = space.looseAt(i);
        space.all.relation(loose, powers);
        return partOf(product[loose], powers[loose], part);
    }

    public int box() {
        return search.countBox();
    }

    public int least(int q) {
        if (q != -1 && !isQuantity(q)) {
            return refusedFar(NOBODY);
        }
        search.findLeast();
        return q == -1 ? search.leastSize : search.leastPowers[q];
    }

    public int may(int set) {
        if (!isSet(set)) {
            return refused(NOBODY);
        }
        return choice.choose(set) ? 1 : 0;
    }

    public int rest(int set, int q, int p) {
        if (!isOutside(set, q) || !isQuantity(p)) {
            return refusedFar(NOBODY);
        }
        if (!choice.choose(set)) {
            return refusedFar(STATE);
        }
        choice.chosen.relation(q, powers);
        return powers[p];
    }

    public int sets(int what) {
        if (what < 0 || what > 2) {
            return refused(OTHER);
        }
        choice.lookAtAll();
        if (what == 0) {
            return choice.count;
        }
        return what == 1 ? choice.first : choice.best;
    }

    public long sizes(int set) {
        if (!isSet(set)) {
            return refusedFarLong(NOBODY);
        }
        if (!choice.choose(set)) {
            return refusedFarLong(STATE);
        }
        return choice.sizesOfRests();
    }

    public long odds(int part) {
        if (!isPart(part)) {
            return refusedFarLong(OTHER);
        }
        choice.lookAtAll();
        return partOf(choice.count, choice.tried, part);
    }

    // ---- scales

    public int scale(int q, int above, int below) {
        if (!isQuantity(q)) {
            return refused(NOBODY);
        }
        if (above < 0 || above > 0 && below < 1) {
            return refused(BELOW);
        }
        if (above > MOST_SCALE || above > 0 && below > MOST_SCALE) {
            return refused(ROOM);
        }
        history.note(History.SCALED, q, model.above[q], model.below[q]);
        model.above[q] = above;
        model.below[q] = above == 0 ? 1 : below;
        return 1;
    }

    public int scaled(int q, int part) {
        if (!isQuantity(q)) {
            return refused(NOBODY);
        }
        if (!isPart(part)) {
            return refused(OTHER);
        }
        if (!model.hasScale(q)) {
            return NONE;
        }
        return (int) partOf(model.above[q], model.below[q], part);
    }

    public int alike() {
        int groups = space.size - space.all.rank;
        for (int i = 0; i < groups; i++) {
            space.all.relation(space.looseAt(i), powers);
            if (model.haveScales(setOf(powers)) && isUnbalanced(powers)) {
                return i;
            }
        }
        return NONE;
    }

    public long must(int set, int q, int prime, int part) {
        if (!isOutside(set, q)) {
            return refusedFarLong(NOBODY);
        }
        if (!isPrime(prime) || !isPart(part)) {
            return refusedFarLong(OTHER);
        }
        if (!choice.choose(set) || !model.haveScales(set)) {
            return refusedFarLong(STATE);
        }
        choice.chosen.relation(q, powers);
        return partOf(-model.together(powers, set, prime), powers[q], part);
    }

    public int whole(int set, int q) {
        if (!isOutside(set, q)) {
            return refused(NOBODY);
        }
        if (!choice.choose(set) || !model.haveScales(set)) {
            return refused(STATE);
        }
        choice.chosen.relation(q, powers);
        for (int prime : PRIMES) {
            if (partOf(model.together(powers, set, prime), powers[q], 1) != 1) {
                return 0;
            }
        }
        return 1;
    }

    public int off(int set) {
        if (!isSet(set)) {
            return refused(NOBODY);
        }
        if (!choice.choose(set) || !model.haveScales(set)) {
            return refused(STATE);
        }
        int off = 0;
        for (int q = 0; q < model.size; q++) {
            if (bit(set, q) == 0 && model.hasScale(q)) {
                choice.chosen.relation(q, powers);
                off |= isUnbalanced(powers) ? 1 << q : 0;
            }
        }
        return off;
    }

    // ---- factors, formulas

    public int fewest(int list, int i) {
        if (!isList(list)) {
            return refused(NOBODY);
        }
        if (isMissing(list)) {
            return MISSING;
        }
        if (!takeNumbers(list, UNITS, dimension)) {
            return refused(STATE);
        }
        return i < -1 ? refused(BELOW) : search.fewestAt(dimension, i);
    }

    public int had(int n) {
        if (n < 0) {
            return refused(BELOW);
        }
        return n > MOST_FACTORS ? refused(ROOM) : search.dimensionsHad(n);
    }

    public int formula() {
        reading.read(letters, letterCount);
        int length = letterCount;
        letterCount = 0;
        if (reading.fault != NONE) {
            return FAULT - reading.fault;
        }
        model.keepFormula(letters, length, reading.terms);
        return reading.terms;
    }

    public int wrong(int what) {
        if (what < 0 || what > 2) {
            return refused(OTHER);
        }
        if (!model.hasFormula()) {
            return refused(STATE);
        }
        reading.read(model.letters, model.length);
        if (what == 0) {
            return reading.firstWrong();
        }
        return what == 1 ? reading.countWrong() : reading.quantities;
    }

    public int sides(int side, int unit) {
        if (!isUnit(unit)) {
            return refusedFar(NOBODY);
        }
        if (side < 0 || side > 2) {
            return refusedFar(OTHER);
        }
        if (!model.hasFormula()) {
            return refusedFar(STATE);
        }
        reading.read(model.letters, model.length);
        if (side == 0) {
            return reading.ahead[unit];
        }
        return side == 1 ? reading.behind[unit] : reading.lacks(unit);
    }

    public int mend(int i) {
        if (i < -1) {
            return refused(BELOW);
        }
        if (!model.hasFormula()) {
            return refused(STATE);
        }
        reading.read(model.letters, model.length);
        for (int unit = 0; unit < UNITS; unit++) {
            dimension[unit] = reading.lacks(unit);
        }
        return search.fewestAt(dimension, i);
    }

    public int lots(int n, int z, int what) {
        if (n < 1) {
            return refused(BELOW);
        }
        if (n > MOST_LOTS) {
            return refused(ROOM);
        }
        if (what != 0 && what != 1) {
            return refused(OTHER);
        }
        int pure = 0;
        int together = 0;
        int seed = z;
        for (int lot = 0; lot < n; lot++) {
            for (int q = 0; q < model.size; q++) {
                seed = seed * 1664525 + 1013904223;
                product[q] = (seed & 0x7fffffff) / 256 % 5 - 2;
            }
            pure += space.isPureProduct(product) ? 1 : 0;
            together += space.sizeOfDimension(product);
        }
        return what == 0 ? pure : together;
    }

    // ---- lists of numbers

    public int list(int list, int n) {
        if (!isList(list)) {
            return refused(NOBODY);
        }
        if (n > MOST_PLACES) {
            return refused(ROOM);
        }
        if (n < 0) {
            return NO_SIZE;
        }
        Arrays.fill(lists[list], 0);
        listSizes[list] = n;
        return 1;
    }

    public int put(int list, int i, int v) {
        if (!isList(list)) {
            return refused(NOBODY);
        }
        if (isMissing(list)) {
            return MISSING;
        }
        if (!isPlace(list, i)) {
            return NO_PLACE;
        }
        lists[list][i] = v;
        return 1;
    }

    public int look(int list, int i) {
        if (!isList(list)) {
            return refusedFar(NOBODY);
        }
        if (isMissing(list)) {
            return refusedFar(MISSING);
        }
        return isPlace(list, i) ? lists[list][i] : refusedFar(NO_PLACE);
    }

    public int lays(int list, int i, int group) {
        if (!isList(list) || !isGroup(group)) {
            return refused(NOBODY);
        }
        if (isMissing(list)) {
            return MISSING;
        }
        if (i < 0 || i > listSizes[list] - model.size) {
            return NO_PLACE;
        }
        space.all.relation(space.looseAt(group), powers);
        System.arraycopy(powers, 0, lists[list], i, model.size);
        return model.size;
    }

    public int judge(int list) {
        if (!isList(list)) {
            return refused(NOBODY);
        }
        if (isMissing(list)) {
            return MISSING;
        }
        for (int i = 0; i < listSizes[list]; i++) {
            int q = i / UNITS;
            if (!isQuantity(q) || lists[list][i] != space.power[q][i % UNITS]) {
                return i;
            }
        }
        return NONE;
    }

    // ---- the image, what is told

    public int undo() {
        if (history.size == 0) {
            return refused(STATE);
        }
        history.takeBack(model);
        space.measure(model);
        return history.size;
    }

    public int image() {
        image.copyFrom(model);
        imageTaken = true;
        return model.size;
    }

    public int on() {
        if (!imageTaken) {
            return refused(STATE);
        }
        model.copyFrom(image);
        history.forget();
        space.measure(model);
        return model.size;
    }

    public int count(int what) {
        if (what == 0) {
            return model.size;
        }
        if (what == 1) {
            return letterCount;
        }
        if (what == 2) {
            return model.scaledSet();
        }
        if (what == 3) {
            return model.terms;
        }
        if (what == 4) {
            return history.size;
        }
        return what >= 11 && what <= 16 ? refusals[what - 10] : NONE;
    }

    // ---- refusals

    /** The four answers of LISTS and KINDS below -6 are handed on, but not counted. */
    private int refused(int code) {
        if (code <= NOBODY && code >= ROOM) {
            refusals[-code]++;
        }
        return code;
    }

    private int refusedFar(int code) {
        return FAR - refused(code);
    }

    private long refusedFarLong(int code) {
        return FAR_LONG - refused(code);
    }

    // ---- what there is

    private boolean isQuantity(int q) {
        return q >= 0 && q < model.size;
    }

    private static boolean isUnit(int unit) {
        return unit >= 0 && unit < UNITS;
    }

    private static boolean isKind(int kind) {
        return kind >= 0 && kind < KINDS;
    }

    private static boolean isPart(int part) {
        return part == 0 || part == 1;
    }

    private static boolean isPrime(int number) {
        for (int prime : PRIMES) {
            if (prime == number) {
                return true;
            }
        }
        return false;
    }

    private boolean isGroup(int i) {
        return i >= 0 && i < space.size - space.all.rank;
    }

    private boolean isSet(int set) {
        return set >= 0 && set < 1 << model.size;
    }

    private boolean isOutside(int set, int q) {
        return isSet(set) && isQuantity(q) && bit(set, q) == 0;
    }

    private static boolean isList(int list) {
        return list >= 0 && list < LISTS;
    }

    private boolean isMissing(int list) {
        return listSizes[list] < 0;
    }

    private boolean isPlace(int list, int i) {
        return i >= 0 && i < listSizes[list];
    }

    /** The first numbers of a LIST, 0 where it has none; false if one may not be told so. */
    private boolean takeNumbers(int list, int wanted, int[] into) {
        for (int i = 0; i < wanted; i++) {
            into[i] = isPlace(list, i) ? lists[list][i] : 0;
            if (into[i] < -MOST_NUMBER || into[i] > MOST_NUMBER) {
                return false;
            }
        }
        return true;
    }

    private boolean isUnbalanced(int[] relation) {
        int all = (1 << model.size) - 1;
        for (int prime : PRIMES) {
            if (model.together(relation, all, prime) != 0) {
                return true;
            }
        }
        return false;
    }

    // ---- numbers

    private static int bit(int set, int q) {
        return set >> q & 1;
    }

    private static int setOf(int[] powers) {
        int set = 0;
        for (int q = 0; q < powers.length; q++) {
            set |= powers[q] != 0 ? 1 << q : 0;
        }
        return set;
    }

    private static boolean isPure(int[] dimension) {
        for (int power : dimension) {
            if (power != 0) {
                return false;
            }
        }
        return true;
    }

    private static long greatestDivisor(long one, long other) {
        long a = Math.abs(one);
        long b = Math.abs(other);
        for (int step = 0; step < 200 && b != 0; step++) {
            long left = a % b;
            a = b;
            b = left;
        }
        return a;
    }

    /** The number above (part 0) or below the line of a fraction in least terms. */
    private static long partOf(long above, long below, int part) {
        long divisor = greatestDivisor(above, below);
        if (divisor == 0) {
            return part;
        }
        return (part == 0 ? above : below) / divisor;
    }

    /** What THE IMAGE keeps: the QUANTITIES with all that is theirs, and THE FORMULA. */
    private static final class Model {
        int size;
        final int[] kind = new int[MOST_QUANTITIES];
        final int[][] told = new int[MOST_QUANTITIES][UNITS];
        /** 0: no SCALE. */
        final int[] above = new int[MOST_QUANTITIES];
        final int[] below = new int[MOST_QUANTITIES];
        final int[] letters = new int[MOST_LETTERS];
        int length;
        int terms = NONE;

        void copyFrom(Model other) {
            size = other.size;
            for (int q = 0; q < size; q++) {
                kind[q] = other.kind[q];
                above[q] = other.above[q];
                below[q] = other.below[q];
                System.arraycopy(other.told[q], 0, told[q], 0, UNITS);
            }
            keepFormula(other.letters, other.length, other.terms);
        }

        /** Its place may still hold what a QUANTITY had that ON took away. */
        void add(int newKind) {
            if (size < MOST_QUANTITIES) {
                kind[size] = newKind;
                above[size] = 0;
                below[size] = 1;
                Arrays.fill(told[size], 0);
                size++;
            }
        }

        void keepFormula(int[] from, int newLength, int newTerms) {
            length = Math.min(newLength, MOST_LETTERS);
            System.arraycopy(from, 0, letters, 0, length);
            terms = newTerms;
        }

        boolean hasFormula() {
            return terms != NONE;
        }

        boolean hasScale(int q) {
            return above[q] != 0;
        }

        int scaledSet() {
            int set = 0;
            for (int q = 0; q < size; q++) {
                set |= hasScale(q) ? 1 << q : 0;
            }
            return set;
        }

        boolean haveScales(int set) {
            return (set & ~scaledSet()) == 0;
        }

        /** Powers of a prime in the SCALES of a set, each times its power: beyond an int's reach. */
        long together(int[] relation, int set, int prime) {
            long sum = 0;
            for (int q = 0; q < size; q++) {
                if (bit(set, q) == 1 && relation[q] != 0) {
                    sum += (long) relation[q] * (times(prime, above[q]) - times(prime, below[q]));
                }
            }
            return sum;
        }

        private static int times(int prime, int number) {
            int count = 0;
            int left = number;
            for (int step = 0; step < MOST_SCALE && left > 0 && prime > 1 && left % prime == 0; step++) {
                left /= prime;
                count++;
            }
            return count;
        }
    }

    /** The latest changes that can be UNDONE, in a ring, so that the oldest makes room. */
    private static final class History {
        static final int TOLD = 0;
        static final int TURNED = 1;
        static final int SCALED = 2;

        final int[][] rows = new int[MOST_UNDONE][4];
        int next;
        int size;

        void note(int call, int q, int first, int second) {
            int[] row = rows[next];
            row[0] = call;
            row[1] = q;
            row[2] = first;
            row[3] = second;
            next = (next + 1) % MOST_UNDONE;
            size = Math.min(size + 1, MOST_UNDONE);
        }

        void forget() {
            size = 0;
        }

        void takeBack(Model model) {
            next = (next + MOST_UNDONE - 1) % MOST_UNDONE;
            size = Math.max(size - 1, 0);
            int[] row = rows[next];
            int q = row[1];
            if (row[0] == TOLD) {
                model.told[q][row[2]] = row[3];
            } else if (row[0] == TURNED) {
                model.kind[q] = row[2];
            } else {
                model.above[q] = row[2];
                model.below[q] = row[3];
            }
        }
    }

    /** The DIMENSIONS of the QUANTITIES as they are now, and their GROUPS. */
    private static final class Space {
        /** Far above twice any POWER of a row, a box or a small product: so keys tell them apart. */
        static final long KEY_BASE = 4096;

        int size;
        int version;
        final int[][] power = new int[MOST_QUANTITIES][UNITS];
        /** All POWERS in one number: those of products add up. */
        final long[] key = new long[MOST_QUANTITIES];
        final Elimination all = new Elimination();

        void measure(Model model) {
            size = model.size;
            version++;
            for (int q = 0; q < size; q++) {
                setPowers(model.kind[q], model.told[q], power[q]);
                key[q] = keyOf(power[q]);
            }
            all.run(power, size, (1 << size) - 1);
        }

        private static void setPowers(int kind, int[] told, int[] into) {
            System.arraycopy(told, 0, into, 0, UNITS);
            into[1] -= LESS_OF_UNIT_1[kind];
            into[2] -= LESS_OF_UNIT_2[kind];
            for (int unit = 0; unit < UNITS; unit++) {
                into[unit] *= TIMES[kind];
            }
        }

        static long keyOf(int[] dimension) {
            long key = 0;
            for (int power : dimension) {
                key = key * KEY_BASE + power;
            }
            return key;
        }

        int looseSet() {
            return (1 << size) - 1 & ~all.pivots;
        }

        /** The LOOSE QUANTITY of a GROUP that there is. */
        int looseAt(int group) {
            int loose = looseSet();
            int left = group;
            for (int q = 0; q < size; q++) {
                if (bit(loose, q) == 1) {
                    if (left == 0) {
                        return q;
                    }
                    left--;
                }
            }
            return 0;
        }

        int differentDimensions() {
            int count = 0;
            for (int q = 0; q < size; q++) {
                int same = 0;
                for (int lesser = 0; lesser < q; lesser++) {
                    same += key[lesser] == key[q] ? 1 : 0;
                }
                count += same == 0 ? 1 : 0;
            }
            return count;
        }

        boolean isPureProduct(int[] product) {
            return sizeOfDimension(product) == 0;
        }

        int sizeOfDimension(int[] product) {
            int together = 0;
            for (int unit = 0; unit < UNITS; unit++) {
                int sum = 0;
                for (int q = 0; q < size; q++) {
                    sum += product[q] * power[q][unit];
                }
                together += Math.abs(sum);
            }
            return together;
        }
    }

    /**
     * QUANTITIES told by others, without fractions: each step divides by the pivot before it, which
     * leaves minors of the powers, so that nothing grows beyond a long.
     */
    private static final class Elimination {
        final long[][] cell = new long[UNITS][MOST_QUANTITIES];
        final int[] rowOf = new int[MOST_QUANTITIES];
        int size;
        int rank;
        int pivots;
        long scale = 1;

        /** Of the columns of a set, by numbers, those become pivots that no lesser ones tell. */
        void run(int[][] power, int columns, int set) {
            size = columns;
            rank = 0;
            pivots = 0;
            scale = 1;
            for (int unit = 0; unit < UNITS; unit++) {
                for (int q = 0; q < size; q++) {
                    cell[unit][q] = power[q][unit];
                }
            }
            for (int q = 0; q < size; q++) {
                if (bit(set, q) == 1 && bringUp(q)) {
                    clearOthers(q);
                    rowOf[q] = rank;
                    pivots |= 1 << q;
                    rank++;
                }
            }
        }

        private boolean bringUp(int q) {
            for (int row = rank; row < UNITS; row++) {
                if (cell[row][q] != 0) {
                    for (int column = 0; column < size; column++) {
                        long other = cell[row][column];
                        cell[row][column] = cell[rank][column];
                        cell[rank][column] = other;
                    }
                    return true;
                }
            }
            return false;
        }

        private void clearOthers(int q) {
            long pivot = cell[rank][q];
            for (int row = 0; row < UNITS; row++) {
                long factor = cell[row][q];
                for (int column = 0; column < size && row != rank && scale != 0; column++) {
                    long kept = cell[row][column] * pivot;
                    cell[row][column] = (kept - factor * cell[rank][column]) / scale;
                }
            }
            scale = pivot;
        }

        /** The PURE PRODUCT, in least whole powers, of a column that is no pivot, and the pivots. */
        void relation(int q, int[] into) {
            Arrays.fill(into, 0);
            long divisor = scale;
            for (int p = 0; p < size; p++) {
                if (bit(pivots, p) == 1) {
                    divisor = greatestDivisor(divisor, cell[rowOf[p]][q]);
                }
            }
            if (divisor == 0) {
                return;
            }
            divisor = scale < 0 ? -Math.abs(divisor) : Math.abs(divisor);
            into[q] = (int) (scale / divisor);
            for (int p = 0; p < size; p++) {
                if (bit(pivots, p) == 1) {
                    into[p] = (int) (-cell[rowOf[p]][q] / divisor);
                }
            }
        }
    }

    /** Sets that MAY be CHOSEN, and the RESTS by them. */
    private static final class Choice {
        final Space space;
        final Elimination chosen = new Elimination();
        final int[] powers = new int[MOST_QUANTITIES];
        int lookedAt = -1;
        int count;
        int tried;
        int first;
        int best;
        long leastSizes;

        Choice(Space space) {
            this.space = space;
        }

        /** Leaves the set's RESTS in chosen, if it MAY be CHOSEN. */
        boolean choose(int set) {
            if (Integer.bitCount(set) != space.all.rank) {
                return false;
            }
            chosen.run(space.power, space.size, set);
            return chosen.pivots == set;
        }

        long sizesOfRests() {
            long together = 0;
            for (int q = 0; q < space.size; q++) {
                if (bit(chosen.pivots, q) == 0) {
                    chosen.relation(q, powers);
                    for (int power : powers) {
                        together += Math.abs(power);
                    }
                }
            }
            return together;
        }

        /** Dear, so what it finds stays as long as the DIMENSIONS stay. */
        void lookAtAll() {
            if (lookedAt == space.version) {
                return;
            }
            lookedAt = space.version;
            count = 0;
            tried = 0;
            for (int set = 0; set < 1 << space.size; set++) {
                if (Integer.bitCount(set) == space.all.rank) {
                    tried++;
                    if (choose(set)) {
                        lookAtOne(set);
                    }
                }
            }
        }

        private void lookAtOne(int set) {
            long sizes = sizesOfRests();
            if (count == 0) {
                first = set;
            }
            if (count == 0 || sizes < leastSizes) {
                best = set;
                leastSizes = sizes;
            }
            count++;
        }
    }

    /** Small PRODUCTS and rows of FACTORS, gone through one by one. */
    private static final class Search {
        static final int SLOTS = 1024;
        /** Farther than any key, those of POWERS are far below 2 to the 62nd. */
        static final long EMPTY = 1L << 63;

        final Space space;
        final int[] leastPowers = new int[MOST_QUANTITIES];
        int leastSize;
        int leastOf = -1;
        final long[] factorKeys = new long[2 * MOST_QUANTITIES];
        final int[] row = new int[MOST_FACTORS];
        final long[] seen = new long[SLOTS];

        Search(Space space) {
            this.space = space;
        }

        int countBox() {
            return pureInBox(space.key, space.size, 0, 0);
        }

        private static int pureInBox(long[] keys, int size, int q, long key) {
            if (q >= size) {
                return key == 0 ? 1 : 0;
            }
            return pureInBox(keys, size, q + 1, key - keys[q])
                + pureInBox(keys, size, q + 1, key)
                + pureInBox(keys, size, q + 1, key + keys[q]);
        }

        /** Dear, so what it finds stays as long as the DIMENSIONS stay. */
        void findLeast() {
            if (leastOf == space.version) {
                return;
            }
            leastOf = space.version;
            leastSize = 0;
            Arrays.fill(leastPowers, 0);
            // FIRM ones alone have no PURE PRODUCT: then there is nothing to go through.
            for (int size = 1; size <= MOST_SIZE && leastSize == 0 && space.looseSet() != 0; size++) {
                if (hasPure(space.key, space.size, leastPowers, 0, size, 0)) {
                    leastSize = size;
                }
            }
        }

        /** Whether powers from QUANTITY q on, of the size that is left, make it PURE: the first such. */
        private static boolean hasPure(long[] keys, int size, int[] powers, int q, int left, long key) {
            if (q >= size) {
                return left == 0 && key == 0;
            }
            // The last one must take all that is left, with either sign.
            int step = q == size - 1 && left > 0 ? 2 * left : 1;
            for (int power = -left; power <= left; power += step) {
                powers[q] = power;
                if (hasPure(keys, size, powers, q + 1, left - Math.abs(power), key + power * keys[q])) {
                    return true;
                }
            }
            powers[q] = 0;
            return false;
        }

        int dimensionsHad(int n) {
            Arrays.fill(seen, EMPTY);
            return gather(seen, space.key, space.size, 0, n, 0);
        }

        /** How many keys are new of PRODUCTS with powers from q on, of what is left at most. */
        private static int gather(long[] seen, long[] keys, int size, int q, int left, long key) {
            if (q >= size) {
                return isNew(seen, key) ? 1 : 0;
            }
            int count = 0;
            for (int power = -left; power <= left; power++) {
                count += gather(seen, keys, size, q + 1, left - Math.abs(power), key + power * keys[q]);
            }
            return count;
        }

        private static boolean isNew(long[] seen, long key) {
            int slot = (int) ((key * 0x9E3779B97F4A7C15L >>> 40) % SLOTS);
            for (int step = 0; step < SLOTS; step++) {
                if (seen[slot] == key) {
                    return false;
                }
                if (seen[slot] == EMPTY) {
                    seen[slot] = key;
                    return true;
                }
                slot = (slot + 1) % SLOTS;
            }
            return false;
        }

        /** FEWEST for a DIMENSION: how many (i -1), the i-th FACTOR; NONE. */
        int fewestAt(int[] dimension, int i) {
            int length = findRow(dimension);
            if (i == -1 || length == NONE) {
                return length;
            }
            return i >= 0 && i < length ? row[i] : NONE;
        }

        private int findRow(int[] dimension) {
            // Three FACTORS never reach so far, and keys of what is farther might be alike.
            for (int power : dimension) {
                if (power < -MOST_NUMBER || power > MOST_NUMBER) {
                    return NONE;
                }
            }
            for (int q = 0; q < space.size; q++) {
                factorKeys[2 * q] = space.key[q];
                factorKeys[2 * q + 1] = -space.key[q];
            }
            long key = Space.keyOf(dimension);
            for (int length = 0; length <= MOST_FACTORS; length++) {
                if (hasRow(factorKeys, 2 * space.size, row, 0, length, key)) {
                    return length;
                }
            }
            return NONE;
        }

        private static boolean hasRow(long[] keys, int count, int[] row, int at, int length, long key) {
            if (at >= length) {
                return key == 0;
            }
            for (int factor = 0; factor < count; factor++) {
                row[at] = factor;
                if (hasRow(keys, count, row, at + 1, length, key - keys[factor])) {
                    return true;
                }
            }
            return false;
        }
    }

    /** One way through the letters of a formula: finds the FAULT, or the DIMENSIONS and WRONG places. */
    private static final class Reading {
        static final int END = -1;

        final Space space;
        final int[] text = new int[MOST_LETTERS];
        int length;
        int place;
        /** NONE, or the place of the FAULT: then nothing more is read. */
        int fault = NONE;
        int terms;
        int quantities;
        final int[] wrongAt = new int[MOST_LETTERS];
        /** By how many ( are open: the DIMENSION of the SUM, of the TERM that is being read. */
        final int[][] sums = new int[MOST_OPEN + 1][UNITS];
        final int[][] products = new int[MOST_OPEN + 1][UNITS];
        final int[] none = new int[UNITS];
        final int[] ahead = new int[UNITS];
        final int[] behind = new int[UNITS];

        Reading(Space space) {
            this.space = space;
        }

        void read(int[] letters, int count) {
            length = Math.min(count, MOST_LETTERS);
            System.arraycopy(letters, 0, text, 0, length);
            place = 0;
            fault = NONE;
            terms = 0;
            quantities = 0;
            Arrays.fill(wrongAt, 0);
            readSum(0);
            System.arraycopy(sums[0], 0, ahead, 0, UNITS);
            int middle = place;
            expect('=');
            readSum(0);
            System.arraycopy(sums[0], 0, behind, 0, UNITS);
            expect(END);
            if (!same(ahead, behind)) {
                markWrong(middle);
            }
        }

        private void readSum(int open) {
            readTerm(open);
            System.arraycopy(products[open], 0, sums[open], 0, UNITS);
            for (int step = 0; step < MOST_LETTERS && isNext('+', '-'); step++) {
                place++;
                int start = place;
                readTerm(open);
                if (!same(products[open], sums[open])) {
                    markWrong(start);
                }
            }
        }

        private void readTerm(int open) {
            terms++;
            Arrays.fill(products[open], 0);
            readPart(open, 1);
            for (int step = 0; step < MOST_LETTERS && isNext('*', '/'); step++) {
                int sign = next() == '*' ? 1 : -1;
                place++;
                readPart(open, sign);
            }
        }

        private void readPart(int open, int sign) {
            int[] atom = readAtom(open);
            int power = sign * readPower();
            for (int unit = 0; unit < UNITS; unit++) {
                products[open][unit] += power * atom[unit];
            }
        }

        private int[] readAtom(int open) {
            int c = next();
            int q = c - 'A';
            if (q >= 0 && q < space.size) {
                place++;
                quantities |= 1 << q;
                return space.power[q];
            }
            if (isDigit(c)) {
                readNumber();
                return none;
            }
            // An s too: the ( that it needs could not stand.
            if ((c == '(' || c == 's') && open < MOST_OPEN) {
                return readInner(open, c);
            }
            failHere();
            return none;
        }

        private int[] readInner(int open, int c) {
            int start = place;
            place++;
            if (c == 's') {
                expect('(');
            }
            readSum(open + 1);
            expect(')');
            if (c == '(') {
                return sums[open + 1];
            }
            if (!isPure(sums[open + 1])) {
                markWrong(start);
            }
            return none;
        }

        private void readNumber() {
            for (int digit = 0; digit < 3 && isDigit(next()); digit++) {
                place++;
            }
        }

        private int readPower() {
            if (next() != '^') {
                return 1;
            }
            place++;
            int sign = 1;
            if (next() == '-') {
                sign = -1;
                place++;
            }
            int c = next();
            if (!isDigit(c)) {
                failHere();
                return 1;
            }
            place++;
            return sign * (c - '0');
        }

        /** END behind the last letter, and everywhere once there is a FAULT. */
        private int next() {
            return fault == NONE && place < length ? text[place] : END;
        }

        private boolean isNext(int one, int other) {
            int c = next();
            return c == one || c == other;
        }

        private static boolean isDigit(int c) {
            return c >= '0' && c <= '9';
        }

        private void expect(int c) {
            if (next() != c) {
                failHere();
            } else {
                place++;
            }
        }

        private void failHere() {
            if (fault == NONE) {
                fault = place;
            }
        }

        private void markWrong(int at) {
            if (at >= 0 && at < MOST_LETTERS) {
                wrongAt[at] = 1;
            }
        }

        private static boolean same(int[] one, int[] other) {
            for (int unit = 0; unit < UNITS; unit++) {
                if (one[unit] != other[unit]) {
                    return false;
                }
            }
            return true;
        }

        int lacks(int unit) {
            return ahead[unit] - behind[unit];
        }

        int firstWrong() {
            for (int at = 0; at < length; at++) {
                if (wrongAt[at] == 1) {
                    return at;
                }
            }
            return NONE;
        }

        int countWrong() {
            int count = 0;
            for (int wrong : wrongAt) {
                count += wrong;
            }
            return count;
        }
    }
}
