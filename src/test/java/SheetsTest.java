/** Promises 21 to 25 and 30: sheets, their cells, and the faults of the calls that name them. */
public final class SheetsTest {
    public static void main(String[] args) {
        sheet();
        lose();
        put();
        lanesCut();
        cell();
        copy();
        copyWithin();
        refusalsOfCopy();
        fault();
        Due.end();
    }

    private static void sheet() {
        MustardFast x = new MustardFast();
        Due.is(x, 1, 0, x.sheet(0, Due.INTS, 60), "the longest row");
        Due.is(0, x.cell(0, 59, Due.INTS), "0 at first");
        Due.is(1, x.put(0, 59, 7), "put into its last cell");
        Due.is(x, 1, 0, x.sheet(0, Due.BYTES, 60), "a new row");
        Due.is(0, x.cell(0, 59, Due.BYTES), "0 at first, again");
        Due.is(x, -1, 0, x.sheet(4, 3, -1), "sheet 4");
        Due.is(x, -1, 0, x.sheet(-1, 0, 0), "sheet -1");
        Due.is(x, -2, 0, x.sheet(0, 3, -1), "lane 3 ahead of a length below 0");
        Due.is(x, -2, 0, x.sheet(0, -1, 1), "lane -1");
        Due.is(x, -2, 0, x.sheet(0, 0, 61), "61 cells");
        Due.is(x, -2, 0, x.sheet(0, 0, Integer.MAX_VALUE), "far too many cells");
        Due.is(x, -14, 4, x.sheet(0, 0, -1), "length -1");
        Due.is(x, -14, 4, x.sheet(0, 0, Integer.MIN_VALUE), "the least length");
        Due.is(1, x.put(0, 59, 1), "the row is as it was");
        Due.is(x, 1, 0, x.sheet(0, Due.BYTES, 0), "a row of no cells");
        Due.is(x, -13, 3, x.put(0, 0, 1), "it has no first cell");
        Due.is(1, x.lose(0), "but is a row");
    }

    private static void lose() {
        MustardFast x = new MustardFast();
        Due.is(0, x.lose(3), "nothing to lose");
        Due.row(x, 3, Due.INTS, 5);
        Due.is(-13, x.put(3, 1, 1), "a fault ahead of it");
        Due.is(x, 1, 3, x.lose(3), "lose names no fault");
        Due.is(0, x.lose(3), "lost");
        Due.is(-11, x.put(3, 0, 1), "it has nothing");
        Due.is(x, -1, 1, x.lose(4), "lose 4 names no fault");
        Due.is(-1, x.lose(-1), "lose -1");
        Due.row(x, 0, Due.INTS, 6);
        x.lose(1);
        Due.is(6, x.cell(0, 0, Due.INTS), "other sheets stay");
    }

    private static void put() {
        MustardFast x = new MustardFast();
        Due.is(x, -11, 1, x.put(0, -1, 5), "nothing, ahead of the index");
        Due.is(1, x.sheet(0, Due.SHORTS, 3), "a row of three");
        Due.is(x, 1, 0, x.put(0, 0, 5), "the first cell");
        Due.is(x, 1, 0, x.put(0, 2, 6), "the last cell");
        Due.is(x, -13, 3, x.put(0, 3, 7), "beyond");
        Due.is(x, -13, 3, x.put(0, -1, 7), "below");
        Due.is(x, -13, 3, x.put(0, Integer.MAX_VALUE, 7), "far beyond");
        Due.is(x, -13, 3, x.put(0, Integer.MIN_VALUE, 7), "far below");
        Due.is(x, -1, 0, x.put(4, -1, 7), "sheet 4");
        Due.is(x, -1, 0, x.put(-1, 0, 7), "sheet -1");
        Due.is(5, x.cell(0, 0, Due.SHORTS), "the first cell's number");
        Due.is(0, x.cell(0, 1, Due.SHORTS), "the second cell's number");
        Due.is(6, x.cell(0, 2, Due.SHORTS), "the last cell's number");
    }

    private static void lanesCut() {
        int[] given = {127, 128, 255, 256, -1, -129, 32767, 32768, 65535, 70001, Integer.MAX_VALUE, Integer.MIN_VALUE};
        for (int v : given) {
            MustardFast x = new MustardFast();
            Due.row(x, 0, Due.BYTES, v);
            Due.row(x, 1, Due.SHORTS, v);
            Due.row(x, 2, Due.INTS, v);
            Due.is((byte) v, x.cell(0, 0, Due.BYTES), v + " in a byte");
            Due.is((short) v, x.cell(1, 0, Due.SHORTS), v + " in a short");
            Due.is(v, x.cell(2, 0, Due.INTS), v + " in an int");
        }
    }

    private static void cell() {
        long lost = Long.MIN_VALUE;
        MustardFast x = new MustardFast();
        Due.row(x, 1, Due.BYTES, 4, -5);
        Due.is(x, 4, 0, x.cell(1, 0, Due.BYTES), "a cell");
        Due.is(x, -5, 0, x.cell(1, 1, Due.BYTES), "with its sign");
        Due.is(x, lost, 2, x.cell(1, -1, Due.INTS), "another lane, ahead of the index");
        Due.is(x, lost, 0, x.cell(4, -1, 3), "sheet 4");
        Due.is(x, lost, 1, x.cell(0, -1, Due.INTS), "nothing is no CAST");
        Due.is(x, lost, 0, x.cell(-1, 0, 0), "sheet -1");
        Due.is(x, lost, 3, x.cell(1, 2, Due.BYTES), "beyond");
        Due.is(x, lost, 0, x.cell(1, 0, 3), "lane 3");
        Due.is(x, lost, 3, x.cell(1, -1, Due.BYTES), "below");
        Due.is(x, lost, 0, x.cell(0, 0, -1), "lane -1, of nothing");
        Due.is(x, lost, 3, x.cell(1, Integer.MIN_VALUE, Due.BYTES), "far below");
        Due.is(x, lost, 3, x.cell(1, Integer.MAX_VALUE, Due.BYTES), "far beyond");
    }

    private static void copy() {
        MustardFast x = new MustardFast();
        Due.row(x, 0, Due.INTS, 1, 2, 3, 4);
        Due.row(x, 1, Due.INTS, 9, 9, 9);
        Due.is(x, 2, 0, x.copy(0, 1, 1, 1, 2), "two cells");
        same(x, 0, Due.INTS, 1, 2, 3, 4);
        same(x, 1, Due.INTS, 9, 2, 3);
        Due.is(x, 0, 0, x.copy(0, 4, 1, 3, 0), "no cells, from end to end");
        Due.is(x, 3, 0, x.copy(1, 0, 0, 0, 3), "a whole row");
        same(x, 0, Due.INTS, 9, 2, 3, 4);
    }

    private static void copyWithin() {
        MustardFast x = new MustardFast();
        Due.row(x, 2, Due.BYTES, 1, 2, 3, 4, 5);
        Due.is(4, x.copy(2, 0, 2, 1, 4), "up over itself");
        same(x, 2, Due.BYTES, 1, 1, 2, 3, 4);
        Due.is(4, x.copy(2, 1, 2, 0, 4), "down over itself");
        same(x, 2, Due.BYTES, 1, 2, 3, 4, 4);
        Due.is(5, x.copy(2, 0, 2, 0, 5), "onto itself");
        same(x, 2, Due.BYTES, 1, 2, 3, 4, 4);
    }

    private static void same(MustardFast x, int k, int lane, int... want) {
        for (int i = 0; i < want.length; i++) {
            Due.is(want[i], x.cell(k, i, lane), "cell " + i + " of " + k);
        }
    }

    private static void refusalsOfCopy() {
        MustardFast x = new MustardFast();
        Due.row(x, 0, Due.INTS, 1, 2, 3, 4);
        Due.row(x, 1, Due.INTS, 9, 9, 9);
        Due.row(x, 2, Due.BYTES, 7);
        Due.is(x, -11, 1, x.copy(3, -1, 2, -1, -1), "the first has nothing");
        Due.is(x, -1, 0, x.copy(4, -1, 3, -1, -1), "the first is unknown");
        Due.is(x, -11, 1, x.copy(2, -1, 3, -1, -1), "the other has nothing, ahead of CAST");
        Due.is(x, -1, 0, x.copy(3, 0, -1, 0, 0), "the other is unknown, ahead of NULL");
        Due.is(x, -12, 2, x.copy(0, -1, 2, -1, -1), "unlike lanes, ahead of INDEX");
        Due.is(x, -1, 0, x.copy(-1, 0, 0, 0, 0), "sheet -1");
        Due.is(x, -13, 3, x.copy(0, -1, 1, 0, 1), "i below");
        Due.is(x, -13, 3, x.copy(0, 0, 1, -1, 1), "j below");
        Due.is(x, -13, 3, x.copy(0, 0, 1, 0, -1), "n below is INDEX");
        Due.is(x, -13, 3, x.copy(0, 5, 1, 0, 0), "i beyond, of no cells");
        Due.is(x, -13, 3, x.copy(0, 0, 1, 4, 0), "j beyond, of no cells");
        Due.is(x, -13, 3, x.copy(0, 2, 1, 0, 3), "too many of the first");
        Due.is(x, -13, 3, x.copy(0, 0, 1, 0, 4), "too many for the other");
        Due.is(x, -13, 3, x.copy(0, 0, 1, 2, 2), "too many behind j");
        Due.is(x, -13, 3, x.copy(0, 1, 1, 1, Integer.MAX_VALUE), "far too many");
        Due.is(x, -13, 3, x.copy(0, Integer.MAX_VALUE, 1, 1, 1), "i far beyond");
        Due.is(x, -13, 3, x.copy(0, 1, 1, Integer.MIN_VALUE, 1), "j far below");
        same(x, 0, Due.INTS, 1, 2, 3, 4);
        same(x, 1, Due.INTS, 9, 9, 9);
        same(x, 2, Due.BYTES, 7);
    }

    /** The fault of the latest call that names one: other calls leave it, right or wrong. */
    private static void fault() {
        MustardFast x = Due.told(Due.VILLAGE);
        Due.is(x, -14, 4, x.sheet(0, 0, -1), "a fault");
        x.ofEater(9, 9);
        x.look(9);
        x.pull(9, 9);
        x.sour(99);
        x.crave(9, 9);
        x.fasts();
        x.yellow(0, 99);
        x.found(0, 0, 9);
        x.best(0, 0);
        x.village();
        x.smile(9);
        x.reading(0, 0, 0, true);
        x.back(1);
        x.stays(0);
        x.kinds(9);
        x.sours();
        x.odds(9, 9, 9);
        x.lose(9);
        x.lose(0);
        x.tell(0);
        x.sniff(9);
        x.trace();
        x.many(9);
        Due.is(4, x.fault(), "calls that name no fault leave it");
        Due.is(4, x.fault(), "fault() leaves it");
        x.sheet(9, 0, 0);
        Due.is(0, x.fault(), "a refusal is none");
        x.as(0, 2);
        Due.is(2, x.fault(), "a new one");
        x.as(0, 0);
        Due.is(0, x.fault(), "a call that comes to none");
    }
}
