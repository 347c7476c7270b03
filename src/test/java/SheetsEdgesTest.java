/** Boundary cases of promises 21 to 25 and 30, each by itself: sheets, their cells, copies, the latest fault. */
public final class SheetsEdgesTest {
    private static final int UNKNOWN = -1, OUTSIDE = -2;
    private static final long LOST = Long.MIN_VALUE;
    private static final int BYTES = 0, SHORTS = 1, INTS = 2;

    public static void main(String[] args) throws ReflectiveOperationException {
        Edges.all(SheetsEdgesTest.class);
    }

    private static void cells(MustardFast x, int k, int lane, int... want) {
        for (int i = 0; i < want.length; i++) {
            Due.is(want[i], x.cell(k, i, lane), "cell " + i + " of sheet " + k);
        }
        Due.is(x, LOST, Due.INDEX, x.cell(k, want.length, lane), "no more cells of sheet " + k);
    }

    // ---- promise 21: sheet

    static void sheetOfTheFirstAndTheLastNumber() {
        MustardFast x = new MustardFast();
        Due.is(x, 1, 0, x.sheet(0, BYTES, 1), "sheet 0");
        Due.is(x, 1, 0, x.sheet(3, INTS, 1), "sheet 3");
        cells(x, 0, BYTES, 0);
        cells(x, 3, INTS, 0);
    }

    static void sheetsThatThereAreNot() {
        Edges.refusedWithoutFaultOfEach(UNKNOWN, (x, k) -> x.sheet(k, BYTES, 3), -1, 4);
        Edges.refusedWithoutFaultOfEach(UNKNOWN, (x, k) -> x.sheet(k, BYTES, 3), Edges.FAR);
    }

    static void sheetOfLanesThatThereAreNot() {
        Edges.refusedWithoutFaultOfEach(OUTSIDE, (x, lane) -> x.sheet(0, lane, 3), -1, 3);
        Edges.refusedWithoutFaultOfEach(OUTSIDE, (x, lane) -> x.sheet(0, lane, 3), Edges.FAR);
    }

    static void sheetOfNoCells() {
        MustardFast x = Edges.busy();
        Due.is(x, 1, 0, x.sheet(0, BYTES, 0), "a row");
        cells(x, 0, BYTES);
        Due.is(x, -13, Due.INDEX, x.put(0, 0, 1), "no cell to put into");
        Due.is(1, x.lose(0), "but something to lose");
    }

    static void sheetOfSixtyCells() {
        MustardFast x = new MustardFast();
        Due.is(x, 1, 0, x.sheet(0, INTS, 60), "the longest row");
        cells(x, 0, INTS, new int[60]);
    }

    static void sheetOfSixtyOneCells() {
        Edges.refusedWithoutFaultOfEach(OUTSIDE, (x, n) -> x.sheet(0, BYTES, n), 61, 1000, Integer.MAX_VALUE);
    }

    static void sheetOfALengthBelow0() {
        Edges.faultedOfEach(Due.SIZE, (x, n) -> x.sheet(0, BYTES, n), -1, -60, Integer.MIN_VALUE);
        Edges.faulted(Due.SIZE, x -> x.sheet(2, INTS, -1));
    }

    static void sheetUnknownAheadOfAll() {
        Edges.refusedWithoutFault(UNKNOWN, x -> x.sheet(4, 3, 61));
        Edges.refusedWithoutFault(UNKNOWN, x -> x.sheet(4, BYTES, -1));
    }

    static void sheetLaneAheadOfSize() {
        Edges.refusedWithoutFault(OUTSIDE, x -> x.sheet(0, 3, -1));
    }

    static void sheetNewRowIs0AtFirst() {
        MustardFast x = new MustardFast();
        Due.row(x, 0, INTS, 7, 8, 9);
        x.sheet(0, INTS, 1);
        x.sheet(0, INTS, 3);
        cells(x, 0, INTS, 0, 0, 0);
    }

    static void sheetNewRowOfAnotherLane() {
        MustardFast x = new MustardFast();
        Due.row(x, 0, INTS, 70000);
        x.sheet(0, BYTES, 1);
        Due.is(x, LOST, Due.CAST, x.cell(0, 0, INTS), "as it was");
        cells(x, 0, BYTES, 0);
    }

    static void sheetLeavesTheOthers() {
        MustardFast x = Edges.busy();
        x.sheet(2, INTS, 60);
        cells(x, 0, BYTES, 1, 2, 4);
        cells(x, 1, SHORTS, 300, -5);
    }

    // ---- promise 22: lose

    static void loseNothing() {
        Edges.refused(0, x -> x.lose(2));
    }

    static void loseARow() {
        MustardFast x = Edges.busy();
        Due.is(1, x.lose(0), "it had one");
        Due.is(0, x.lose(0), "it has nothing");
        Due.is(x, -11, Due.NULL, x.put(0, 0, 1), "nothing to put into");
    }

    static void loseARowWithoutCells() {
        MustardFast x = new MustardFast();
        x.sheet(1, BYTES, 0);
        Due.is(1, x.lose(1), "it had one");
        Due.is(0, x.lose(1), "it has nothing");
    }

    static void loseTheFirstAndTheLast() {
        for (int k : new int[] {0, 3}) {
            MustardFast x = Edges.busy();
            Due.is(1, x.lose(k), "sheet " + k);
            Due.is(300, x.cell(1, 0, SHORTS), "another one stays");
        }
    }

    static void loseAndHaveARowAgain() {
        MustardFast x = Edges.busy();
        x.lose(0);
        x.sheet(0, BYTES, 3);
        cells(x, 0, BYTES, 0, 0, 0);
    }

    static void loseSheetsThatThereAreNot() {
        Edges.refusedOfEach(UNKNOWN, (x, k) -> x.lose(k), -1, 4);
        Edges.refusedOfEach(UNKNOWN, (x, k) -> x.lose(k), Edges.FAR);
    }

    // ---- promise 23: put

    static void putIntoTheFirstAndTheLastCell() {
        MustardFast x = new MustardFast();
        x.sheet(0, INTS, 60);
        Due.is(x, 1, 0, x.put(0, 0, 5), "the first");
        Due.is(x, 1, 0, x.put(0, 59, 6), "the last");
        int[] want = new int[60];
        want[0] = 5;
        want[59] = 6;
        cells(x, 0, INTS, want);
    }

    static void putBeyond() {
        Edges.faultedOfEach(Due.INDEX, (x, i) -> x.put(0, i, 7), 3, 4, 59, 60, Integer.MAX_VALUE);
    }

    static void putBelow() {
        Edges.faultedOfEach(Due.INDEX, (x, i) -> x.put(0, i, 7), -1, -3, Integer.MIN_VALUE);
    }

    static void putIntoNothing() {
        Edges.faulted(Due.NULL, x -> x.put(2, 0, 7));
    }

    static void putNullAheadOfIndex() {
        Edges.faulted(Due.NULL, x -> x.put(2, -1, 7));
        Edges.faulted(Due.NULL, x -> x.put(2, 60, 7));
    }

    static void putIntoSheetsThatThereAreNot() {
        Edges.refusedWithoutFaultOfEach(UNKNOWN, (x, k) -> x.put(k, 0, 7), -1, 4);
        Edges.refusedWithoutFaultOfEach(UNKNOWN, (x, k) -> x.put(k, 0, 7), Edges.FAR);
    }

    static void putUnknownAheadOfIndex() {
        Edges.refusedWithoutFault(UNKNOWN, x -> x.put(4, -1, 7));
    }

    static void putIsCutToABytesSign() {
        cut(BYTES, new int[] {127, 128, 255, 256, -128, -129, -256, Integer.MAX_VALUE, Integer.MIN_VALUE},
                new int[] {127, -128, -1, 0, -128, 127, 0, -1, 0});
    }

    static void putIsCutToAShortsSign() {
        cut(SHORTS, new int[] {32767, 32768, 65535, 65536, -32768, -32769, Integer.MAX_VALUE, Integer.MIN_VALUE},
                new int[] {32767, -32768, -1, 0, -32768, 32767, -1, 0});
    }

    static void putIsWholeAsAnInt() {
        int[] all = {0, -1, 65536, Integer.MAX_VALUE, Integer.MIN_VALUE};
        cut(INTS, all, all);
    }

    private static void cut(int lane, int[] given, int[] left) {
        for (int v = 0; v < given.length; v++) {
            MustardFast x = new MustardFast();
            x.sheet(0, lane, 1);
            Due.is(1, x.put(0, 0, given[v]), "put of " + given[v]);
            Due.is(left[v], x.cell(0, 0, lane), "what is left of " + given[v]);
        }
    }

    // ---- promise 24: cell

    static void cellOfTheFirstAndTheLast() {
        MustardFast x = Edges.busy();
        Due.is(x, 1, 0, x.cell(0, 0, BYTES), "the first");
        Due.is(x, 4, 0, x.cell(0, 2, BYTES), "the last");
    }

    static void cellBelow0IsNoFault() {
        MustardFast x = Edges.busy();
        Due.is(x, -5, 0, x.cell(1, 1, SHORTS), "-5");
        Due.row(x, 2, INTS, -13, Integer.MIN_VALUE);
        Due.is(x, -13, 0, x.cell(2, 0, INTS), "-13");
        Due.is(x, Integer.MIN_VALUE, 0, x.cell(2, 1, INTS), "the least int is not LOST");
    }

    static void cellBeyond() {
        Edges.lostOfEach(Due.INDEX, (x, i) -> x.cell(0, i, BYTES), 3, 59, 60, Integer.MAX_VALUE);
    }

    static void cellBelow() {
        Edges.lostOfEach(Due.INDEX, (x, i) -> x.cell(0, i, BYTES), -1, -3, Integer.MIN_VALUE);
    }

    static void cellOfNothing() {
        Edges.lostOfEach(Due.NULL, (x, lane) -> x.cell(2, 0, lane), BYTES, SHORTS, INTS);
    }

    static void cellOfARowWithoutCells() {
        MustardFast x = Edges.busy();
        x.sheet(2, INTS, 0);
        Edges.unchanging(x, LOST, Due.INDEX, y -> y.cell(2, 0, INTS));
    }

    static void cellOfAnotherLane() {
        Edges.lost(Due.CAST, x -> x.cell(0, 0, SHORTS));
        Edges.lost(Due.CAST, x -> x.cell(0, 0, INTS));
        Edges.lost(Due.CAST, x -> x.cell(1, 0, BYTES));
        Edges.lost(Due.CAST, x -> x.cell(1, 0, INTS));
        Edges.lost(Due.CAST, x -> x.cell(3, 0, BYTES));
        Edges.lost(Due.CAST, x -> x.cell(3, 0, SHORTS));
    }

    static void cellCastAheadOfIndex() {
        Edges.lost(Due.CAST, x -> x.cell(0, -1, INTS));
        Edges.lost(Due.CAST, x -> x.cell(0, 3, INTS));
    }

    static void cellNullAheadOfIndex() {
        Edges.lost(Due.NULL, x -> x.cell(2, -1, INTS));
    }

    static void cellOfSheetsThatThereAreNot() {
        Edges.refusedWithoutFaultOfEach(LOST, (x, k) -> x.cell(k, 0, BYTES), -1, 4);
        Edges.refusedWithoutFaultOfEach(LOST, (x, k) -> x.cell(k, 0, BYTES), Edges.FAR);
    }

    static void cellOfLanesThatThereAreNot() {
        Edges.refusedWithoutFaultOfEach(LOST, (x, lane) -> x.cell(0, 0, lane), -1, 3);
        Edges.refusedWithoutFaultOfEach(LOST, (x, lane) -> x.cell(0, 0, lane), Edges.FAR);
    }

    static void cellRefusalsAheadOfFaults() {
        Edges.refusedWithoutFault(LOST, x -> x.cell(4, -1, 3));
        Edges.refusedWithoutFault(LOST, x -> x.cell(0, -1, 3));
        Edges.refusedWithoutFault(LOST, x -> x.cell(2, 0, -1));
    }

    // ---- promise 25: copy

    /** Sheet 0 four ints, 1 three ints, 2 one byte, 3 nothing. */
    private static MustardFast rows() {
        MustardFast x = new MustardFast();
        Due.row(x, 0, INTS, 1, 2, 3, 4);
        Due.row(x, 1, INTS, 7, 8, 9);
        Due.row(x, 2, BYTES, 5);
        return x;
    }

    private static void copyIsFaulted(int fault, Edges.Call call) {
        Edges.unchanging(rows(), -10 - fault, fault, call);
    }

    static void copyWholeRows() {
        MustardFast x = rows();
        Due.is(x, 3, 0, x.copy(0, 0, 1, 0, 3), "three cells");
        cells(x, 1, INTS, 1, 2, 3);
        cells(x, 0, INTS, 1, 2, 3, 4);
    }

    static void copyToTheRowsEnds() {
        MustardFast x = rows();
        Due.is(x, 1, 0, x.copy(0, 3, 1, 2, 1), "the last cell to the last cell");
        cells(x, 1, INTS, 7, 8, 4);
    }

    static void copyOfEachLane() {
        for (int lane = 0; lane < 3; lane++) {
            MustardFast x = new MustardFast();
            Due.row(x, 0, lane, 1, -2);
            Due.row(x, 1, lane, 0, 0);
            Due.is(x, 2, 0, x.copy(0, 0, 1, 0, 2), "lane " + lane);
            cells(x, 1, lane, 1, -2);
        }
    }

    static void copySixtyCells() {
        MustardFast x = new MustardFast();
        x.sheet(0, BYTES, 60);
        x.sheet(3, BYTES, 60);
        x.put(0, 0, 1);
        x.put(0, 59, 2);
        Due.is(x, 60, 0, x.copy(0, 0, 3, 0, 60), "the longest rows");
        Due.is(1, x.cell(3, 0, BYTES), "the first cell");
        Due.is(2, x.cell(3, 59, BYTES), "the last cell");
    }

    static void copyNoCells() {
        Edges.unchanging(rows(), 0, 0, x -> x.copy(0, 0, 1, 0, 0));
    }

    static void copyNoCellsFromEndToEnd() {
        Edges.unchanging(rows(), 0, 0, x -> x.copy(0, 4, 1, 3, 0));
    }

    static void copyNoCellsOfRowsWithoutAny() {
        MustardFast x = rows();
        x.sheet(3, BYTES, 0);
        Edges.unchanging(x, 0, 0, y -> y.copy(3, 0, 2, 1, 0));
    }

    static void copyUpOverItself() {
        MustardFast x = rows();
        Due.is(x, 3, 0, x.copy(0, 0, 0, 1, 3), "as they were");
        cells(x, 0, INTS, 1, 1, 2, 3);
    }

    static void copyDownOverItself() {
        MustardFast x = rows();
        Due.is(x, 3, 0, x.copy(0, 1, 0, 0, 3), "as they were");
        cells(x, 0, INTS, 2, 3, 4, 4);
    }

    static void copyOntoItself() {
        Edges.unchanging(rows(), 4, 0, x -> x.copy(0, 0, 0, 0, 4));
    }

    static void copiedCellsStandAlone() {
        MustardFast x = rows();
        x.copy(0, 0, 1, 0, 3);
        x.put(0, 0, 99);
        cells(x, 1, INTS, 1, 2, 3);
    }

    static void copyOfSheetsThatThereAreNot() {
        for (int k : new int[] {-1, 4, Integer.MIN_VALUE, Integer.MAX_VALUE}) {
            Edges.unchanging(rows(), UNKNOWN, 0, x -> x.copy(k, 0, 0, 0, 1));
            Edges.unchanging(rows(), UNKNOWN, 0, x -> x.copy(0, 0, k, 0, 1));
        }
    }

    static void copyOtherUnknownAheadOfNull() {
        Edges.unchanging(rows(), UNKNOWN, 0, x -> x.copy(3, 0, 4, 0, 1));
    }

    static void copyOfNothing() {
        copyIsFaulted(Due.NULL, x -> x.copy(3, 0, 0, 0, 1));
    }

    static void copyToNothing() {
        copyIsFaulted(Due.NULL, x -> x.copy(0, 0, 3, 0, 1));
    }

    static void copyOfNothingToItself() {
        copyIsFaulted(Due.NULL, x -> x.copy(3, 0, 3, 0, 0));
    }

    static void copyNullAheadOfCastAndIndex() {
        copyIsFaulted(Due.NULL, x -> x.copy(2, -1, 3, -1, -1));
        copyIsFaulted(Due.NULL, x -> x.copy(3, -1, 2, -1, -1));
    }

    static void copyOfUnlikeLanes() {
        copyIsFaulted(Due.CAST, x -> x.copy(0, 0, 2, 0, 1));
        copyIsFaulted(Due.CAST, x -> x.copy(2, 0, 0, 0, 1));
    }

    static void copyOfUnlikeLanesOfNoCells() {
        copyIsFaulted(Due.CAST, x -> x.copy(0, 0, 2, 0, 0));
    }

    static void copyCastAheadOfIndex() {
        copyIsFaulted(Due.CAST, x -> x.copy(0, -1, 2, -1, -1));
        copyIsFaulted(Due.CAST, x -> x.copy(0, 9, 2, 9, 9));
    }

    static void copyFromBelow() {
        copyIsFaulted(Due.INDEX, x -> x.copy(0, -1, 1, 0, 1));
        copyIsFaulted(Due.INDEX, x -> x.copy(0, Integer.MIN_VALUE, 1, 0, 1));
    }

    static void copyFromBeyond() {
        copyIsFaulted(Due.INDEX, x -> x.copy(0, 4, 1, 0, 1));
        copyIsFaulted(Due.INDEX, x -> x.copy(0, 2, 1, 0, 3));
        copyIsFaulted(Due.INDEX, x -> x.copy(0, Integer.MAX_VALUE, 1, 0, 1));
    }

    static void copyToBelow() {
        copyIsFaulted(Due.INDEX, x -> x.copy(0, 0, 1, -1, 1));
        copyIsFaulted(Due.INDEX, x -> x.copy(0, 0, 1, Integer.MIN_VALUE, 1));
    }

    static void copyToBeyond() {
        copyIsFaulted(Due.INDEX, x -> x.copy(0, 0, 1, 3, 1));
        copyIsFaulted(Due.INDEX, x -> x.copy(0, 0, 1, 0, 4));
        copyIsFaulted(Due.INDEX, x -> x.copy(0, 0, 1, Integer.MAX_VALUE, 1));
    }

    static void copyOfALengthBelow0IsIndex() {
        copyIsFaulted(Due.INDEX, x -> x.copy(0, 0, 1, 0, -1));
        copyIsFaulted(Due.INDEX, x -> x.copy(0, 3, 1, 3, -3));
        copyIsFaulted(Due.INDEX, x -> x.copy(0, 0, 1, 0, Integer.MIN_VALUE));
    }

    static void copyOfNoCellsBelow() {
        copyIsFaulted(Due.INDEX, x -> x.copy(0, -1, 1, 0, 0));
        copyIsFaulted(Due.INDEX, x -> x.copy(0, 0, 1, -1, 0));
    }

    static void copyOfNoCellsBeyond() {
        copyIsFaulted(Due.INDEX, x -> x.copy(0, 5, 1, 0, 0));
        copyIsFaulted(Due.INDEX, x -> x.copy(0, 0, 1, 4, 0));
    }

    static void copySoFarThatTheSumWraps() {
        copyIsFaulted(Due.INDEX, x -> x.copy(0, 1, 1, 1, Integer.MAX_VALUE));
        copyIsFaulted(Due.INDEX, x -> x.copy(0, Integer.MAX_VALUE, 1, 0, Integer.MAX_VALUE));
        copyIsFaulted(Due.INDEX, x -> x.copy(0, 0, 1, Integer.MAX_VALUE, Integer.MAX_VALUE));
    }

    static void copyTooMuchWithinOneRow() {
        copyIsFaulted(Due.INDEX, x -> x.copy(0, 0, 0, 1, 4));
        copyIsFaulted(Due.INDEX, x -> x.copy(0, 1, 0, 0, 4));
    }

    // ---- promise 30: fault

    static void faultIs0AheadOfAny() {
        MustardFast x = new MustardFast();
        Due.is(0, x.fault(), "a new object");
        x.lose(4);
        x.look(0);
        x.sour(5);
        Due.is(0, x.fault(), "behind calls that name none");
    }

    static void faultOfEachKind() {
        MustardFast x = Edges.busy();
        x.put(2, 0, 0);
        Due.is(1, x.fault(), "NULL");
        x.cell(0, 0, INTS);
        Due.is(2, x.fault(), "CAST");
        x.put(0, 3, 0);
        Due.is(3, x.fault(), "INDEX");
        x.sheet(0, BYTES, -1);
        Due.is(4, x.fault(), "SIZE");
    }

    static void faultIsAskedAsOftenAsOneLikes() {
        MustardFast x = Edges.busy();
        Due.is(4, x.fault(), "once");
        Due.is(4, x.fault(), "twice");
    }

    static void faultIs0BehindEachCallThatComesToNone() {
        comesToNone(3, x -> x.duchy(3, INTS, 0, 22));
        comesToNone(12, x -> x.plan(0, BYTES, 0, 3, 0));
        comesToNone(1, x -> x.sheet(0, BYTES, 1));
        comesToNone(1, x -> x.put(0, 0, 1));
        comesToNone(1, x -> x.cell(0, 0, BYTES));
        comesToNone(1, x -> x.copy(0, 0, 0, 1, 1));
        comesToNone(1, x -> x.as(0, 0));
    }

    private static void comesToNone(long want, Edges.Call call) {
        MustardFast x = Edges.busy();
        Due.is(x, want, 0, call.on(x), "the call");
    }

    static void faultStaysBehindEachCallThatNamesNone() {
        leavesIt(0, x -> x.ofEater(0, 0));
        leavesIt(6, x -> x.look(0));
        leavesIt(6, x -> x.pull(0, 1));
        leavesIt(5, x -> x.sour(1));
        leavesIt(2, x -> x.crave(0, 1));
        leavesIt(5, x -> x.fasts());
        leavesIt(3, x -> x.yellow(0, 1));
        leavesIt(1, x -> x.found(0, 1, 0));
        leavesIt(6, x -> x.best(0, 0));
        leavesIt(3, x -> x.village());
        leavesIt(0, x -> x.smile(0));
        leavesIt(2, x -> x.reading(0, 1, 0, true));
        leavesIt(1, x -> x.back(1));
        leavesIt(63, x -> x.stays(0));
        leavesIt(7, x -> x.kinds(0));
        leavesIt(127, x -> x.sours());
        leavesIt(4, x -> x.odds(0, 1, 1));
        leavesIt(1, x -> x.lose(0));
        leavesIt(3, x -> x.tell(0));
        leavesIt(0, x -> x.sniff(0));
        leavesIt(63, x -> x.trace());
        leavesIt(3, x -> x.many(0));
    }

    private static void leavesIt(long want, Edges.Call call) {
        MustardFast x = Edges.busy();
        Due.is(x, want, Edges.STANDING, call.on(x), "the call");
    }
}
