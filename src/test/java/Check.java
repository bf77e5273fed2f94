/** Counts and prints the answers that are not as due. */
final class Check {
    private final String name;
    private int asked;
    private int wrong;

    Check(String name) {
        this.name = name;
    }

    void due(String call, long got, long want) {
        asked++;
        if (got != want) {
            wrong++;
            System.out.println(name + ": " + call + " answered " + got + ", due is " + want);
        }
    }

    void holds(String what, boolean good) {
        due(what, good ? 1 : 0, 1);
    }

    int wrong() {
        return wrong;
    }

    /** Ends the program with exit code 1 if an answer was wrong, or if nothing was asked. */
    void finish() {
        System.out.println(name + ": " + asked + " answers, " + wrong + " wrong");
        if (wrong != 0 || asked == 0) {
            System.exit(1);
        }
    }

    /** The letters of a text, one by one; answers what the last of them answered. */
    static int say(PureGroups x, String text) {
        int last = 0;
        for (int i = 0; i < text.length(); i++) {
            last = x.letter(text.charAt(i));
        }
        return last;
    }

    static int formula(PureGroups x, String text) {
        say(x, text);
        return x.formula();
    }

    /** A QUANTITY of a KIND with the powers that are told. */
    static int quantity(PureGroups x, int kind, int... told) {
        int q = x.quantity(kind);
        for (int unit = 0; unit < told.length; unit++) {
            x.tell(q, unit, told[unit]);
        }
        return q;
    }

    static void list(PureGroups x, int list, int... numbers) {
        x.list(list, numbers.length);
        for (int i = 0; i < numbers.length; i++) {
            x.put(list, i, numbers[i]);
        }
    }
}
