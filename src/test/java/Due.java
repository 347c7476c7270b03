/** What the tests share: counting answers that are not due, and ways to a state that a test wants. */
final class Due {
    static final String VILLAGE = "d5,6374;e132;s251;l541";
    static final int BYTES = 0, SHORTS = 1, INTS = 2;
    static final int NULL = 1, CAST = 2, INDEX = 3, SIZE = 4;

    private static int asked = 0;
    private static int wrong = 0;
    private static int askedAhead = 0;
    private static String at = "";

    private Due() {
    }

    /** What is asked from here on is told by a case's name. */
    static void begin(String name) {
        at = name + ": ";
        askedAhead = asked;
    }

    static int askedOfCase() {
        return asked - askedAhead;
    }

    static void is(long want, long got, String call) {
        asked++;
        if (got != want) {
            wrong++;
            System.out.println(at + call + " answered " + got + ", due is " + want);
        }
    }

    static void holds(boolean so, String what) {
        is(1, so ? 1 : 0, what);
    }

    /** An answer together with what fault() tells behind it. */
    static void is(MustardFast x, long want, int fault, long got, String call) {
        is(want, got, call);
        is(fault, x.fault(), "fault() behind " + call);
    }

    static void end() {
        System.out.println(asked - wrong + " of " + asked + " answers are as due");
        if (wrong != 0 || asked == 0) {
            System.exit(1);
        }
    }

    static void row(MustardFast x, int sheet, int lane, int... cells) {
        is(1, x.sheet(sheet, lane, cells.length), "sheet for a row");
        for (int i = 0; i < cells.length; i++) {
            is(1, x.put(sheet, i, cells[i]), "put for a row");
        }
    }

    static int[] codes(String text) {
        int[] codes = new int[text.length()];
        for (int i = 0; i < codes.length; i++) {
            codes[i] = text.charAt(i);
        }
        return codes;
    }

    /** Tells a text by sheet 3. */
    static int tell(MustardFast x, String text) {
        row(x, 3, INTS, codes(text));
        return x.duchy(3, INTS, 0, text.length());
    }

    static MustardFast told(String text) {
        MustardFast x = new MustardFast();
        holds(tell(x, text) > 0, "telling " + text);
        return x;
    }

    static int plan(MustardFast x, int what, int... sets) {
        row(x, 2, INTS, sets);
        return x.plan(2, INTS, 0, sets.length, what);
    }
}
