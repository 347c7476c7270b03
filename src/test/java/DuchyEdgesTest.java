/** Boundary cases of promises 1 to 7 and 31, each by itself: a new object, the text, eaters, days, how many. */
public final class DuchyEdgesTest {
    private static final int UNKNOWN = -1, OUTSIDE = -2, STATE = -3;
    private static final int BYTES = 0, SHORTS = 1, INTS = 2;

    public static void main(String[] args) throws ReflectiveOperationException {
        Edges.all(DuchyEdgesTest.class);
    }

    // ---- promise 1: a new object

    static void newHasNoEaters() {
        Due.is(0, new MustardFast().many(0), "eaters");
        Due.is(UNKNOWN, new MustardFast().ofEater(0, 0), "the first one");
    }

    static void newHasNoDays() {
        Due.is(0, new MustardFast().many(1), "days");
        Due.is(UNKNOWN, new MustardFast().look(0), "the first one");
    }

    static void newHasNothingOnAnySheet() {
        for (int k = 0; k < 4; k++) {
            MustardFast x = new MustardFast();
            Due.is(0, x.lose(k), "nothing to lose");
            Due.is(x, -11, Due.NULL, x.put(k, 0, 0), "nothing to put into");
        }
    }

    static void newSharesNothingWithAnother() {
        MustardFast one = Edges.busy();
        MustardFast other = new MustardFast();
        Due.is(0, other.many(0), "eaters");
        Due.is(0, other.many(3), "readings");
        Due.is(0, other.trace(), "trace");
        Due.is(0, other.fault(), "fault");
        Due.is(0, other.lose(0), "sheets");
        Due.tell(other, "d0,0;e010");
        Due.is(3, one.many(0), "eaters of the first");
    }

    static void lastPromisedCallIsAnsweredLikeTheFirst() {
        MustardFast x = Due.told(Due.VILLAGE);
        for (int called = 24; called < 511; called++) {
            Due.is(5, x.fasts(), "call " + called);
        }
        Due.is(8, x.best(1, 0), "call 512");
    }

    // ---- promise 2: what a text may hold

    static void textOfOneDayAndOneEater() {
        Edges.taken(1, "d0,0;e010");
    }

    static void textOfSixDaysAndFourEaters() {
        Edges.taken(4, "d9,999999;l596;s596;e596;l596");
    }

    static void textOfEachCountOfDays() {
        for (int days = 1; days <= 6; days++) {
            MustardFast x = Due.told("d5," + "123456".substring(0, days) + ";e132");
            Due.is(days, x.many(1), "days");
            Due.is(days, x.look(days - 1), "the last day's look");
        }
    }

    static void textOfEachCountOfEaters() {
        String text = "d5,6";
        for (int eaters = 1; eaters <= 4; eaters++) {
            text += ";e1" + eaters + "2";
            MustardFast x = Due.told(text);
            Due.is(eaters, x.many(0), "eaters");
            Due.is(eaters, x.ofEater(eaters - 1, 2), "the last one's spoons");
        }
    }

    static void digitOfASeventhDayIsTheFirstFault() {
        Edges.firstFault(9, "d5,1234567;e132");
    }

    static void semicolonOfAFifthEaterIsTheFirstFault() {
        Edges.firstFault(24, "d5,6;e132;e132;e132;e132;e132");
    }

    static void fifthEaterBehindSixDays() {
        Edges.firstFault(29, "d5,666666;e132;e132;e132;e132;");
    }

    static void noDayAtAll() {
        Edges.firstFault(3, "d5,;e132");
    }

    static void noEaterAtAll() {
        Edges.firstFault(4, "d5,6");
        Edges.firstFault(9, "d5,666666");
    }

    static void anotherCodeThanD() {
        Edges.firstFault(0, "c5,6;e132");
        Edges.firstFault(0, "e5,6;e132");
        Edges.firstFault(0, "D5,6;e132");
        Edges.firstFault(0, " d5,6;e132");
    }

    static void sourIsADigit() {
        Due.is(0, Due.told("d0,6;e132").many(2), "0");
        Due.is(9, Due.told("d9,6;e132").many(2), "9");
        Edges.firstFault(1, "d/,6;e132");
        Edges.firstFault(1, "d:,6;e132");
        Edges.firstFault(1, "d,6;e132");
        Edges.firstFault(2, "d10,6;e132");
    }

    static void commaBehindSour() {
        Edges.firstFault(2, "d5+6;e132");
        Edges.firstFault(2, "d5-6;e132");
        Edges.firstFault(2, "d5;6;e132");
        Edges.firstFault(3, "d5,,6;e132");
    }

    static void lookIsADigit() {
        Due.is(0, Due.told("d5,0;e132").look(0), "0");
        Due.is(9, Due.told("d5,9;e132").look(0), "9");
        Edges.firstFault(3, "d5,/;e132");
        Edges.firstFault(3, "d5,:;e132");
        Edges.firstFault(4, "d5,6/;e132");
        Edges.firstFault(4, "d5,6:;e132");
        Edges.firstFault(9, "d5,666666:e132");
    }

    static void letterIsEOrSOrL() {
        Edges.taken(3, "d5,6;e132;s132;l132");
        for (char other : new char[] {'d', 'f', 'k', 'm', 'r', 't', 'E', 'S', 'L', '0', ';'}) {
            Edges.firstFault(5, "d5,6;" + other + "132");
        }
        Edges.firstFault(5, "d5,6;132");
        Edges.firstFault(6, "d5,6;es132");
    }

    static void stayIs0To5() {
        Due.is(0, Due.told("d5,6;e032").ofEater(0, 1), "0");
        Due.is(5, Due.told("d5,6;e532").ofEater(0, 1), "5");
        Edges.firstFault(6, "d5,6;e/32");
        Edges.firstFault(6, "d5,6;e632");
        Edges.firstFault(6, "d5,6;e932");
    }

    static void spoonsAre1To9() {
        Due.is(1, Due.told("d5,6;e112").ofEater(0, 2), "1");
        Due.is(9, Due.told("d5,6;e192").ofEater(0, 2), "9");
        Edges.firstFault(7, "d5,6;e102");
        Edges.firstFault(7, "d5,6;e1:2");
    }

    static void needIs0To6() {
        Due.is(0, Due.told("d5,6;e130").ofEater(0, 3), "0");
        Due.is(6, Due.told("d5,6;e136").ofEater(0, 3), "6, of one day");
        Edges.firstFault(8, "d5,6;e13/");
        Edges.firstFault(8, "d5,6;e137");
        Edges.firstFault(8, "d5,6;e139");
    }

    static void semicolonBetweenEaters() {
        Edges.firstFault(9, "d5,6;e132e132");
        Edges.firstFault(9, "d5,6;e132,e132");
        Edges.firstFault(9, "d5,6;e1320;e132");
        Edges.firstFault(10, "d5,6;e132;;e132");
    }

    static void textThatJustEndsTooSoon() {
        String text = "d5,66;e132;s251";
        for (int n = 0; n < text.length(); n++) {
            boolean isWhole = n == 10;
            if (isWhole) {
                Edges.taken(1, text.substring(0, n));
            } else {
                Edges.firstFault(n, text.substring(0, n));
            }
        }
    }

    static void firstOfSeveralFaults() {
        Edges.firstFault(1, "dx;6,e999");
    }

    static void codeAsAnIntIsNotCut() {
        int[] codes = Due.codes("d5,6;e132");
        for (int place = 0; place < codes.length; place++) {
            for (int more : new int[] {256, -256, 65536, Integer.MIN_VALUE}) {
                MustardFast x = new MustardFast();
                Due.row(x, 0, INTS, codes);
                x.put(0, place, codes[place] + more);
                Due.is(-100 - place, x.duchy(0, INTS, 0, codes.length), "code " + (codes[place] + more));
            }
        }
    }

    static void codeAsAByteIsWhatIsLeft() {
        MustardFast x = new MustardFast();
        Due.row(x, 0, BYTES, Due.codes("d5,6;e132"));
        x.put(0, 0, 'd' + 256);
        Due.is(1, x.duchy(0, BYTES, 0, 9), "d and 256");
    }

    static void codeBelow0() {
        MustardFast x = new MustardFast();
        Due.row(x, 0, BYTES, Due.codes("d5,6;e132"));
        x.put(0, 3, 255);
        Due.is(-103, x.duchy(0, BYTES, 0, 9), "-1 for a look");
    }

    // ---- promise 2: cells of a sheet

    static void textInEachLane() {
        for (int lane = 0; lane < 3; lane++) {
            MustardFast x = new MustardFast();
            Due.row(x, lane, lane, Due.codes(Due.VILLAGE));
            Due.is(3, x.duchy(lane, lane, 0, 22), "lane " + lane);
        }
    }

    static void textInTheLastSheet() {
        MustardFast x = new MustardFast();
        Due.row(x, 3, BYTES, Due.codes("d5,6;e132"));
        Due.is(1, x.duchy(3, BYTES, 0, 9), "sheet 3");
    }

    static void textAtTheEndOfTheLongestRow() {
        MustardFast x = new MustardFast();
        x.sheet(0, BYTES, 60);
        int[] codes = Due.codes("d5,6;e132");
        for (int i = 0; i < codes.length; i++) {
            x.put(0, 51 + i, codes[i]);
        }
        Due.is(x, 1, 0, x.duchy(0, BYTES, 51, 9), "the last nine cells");
        Due.is(x, -13, Due.INDEX, x.duchy(0, BYTES, 51, 10), "one more");
        Due.is(x, -13, Due.INDEX, x.duchy(0, BYTES, 52, 9), "one on");
    }

    static void placeIsToldFromTheTextsBeginning() {
        MustardFast x = new MustardFast();
        Due.row(x, 0, BYTES, Due.codes("d5,6;d5,6;x132"));
        Due.is(x, -105, 0, x.duchy(0, BYTES, 5, 9), "from 5 on");
    }

    static void cellsBehindTheTextDoNotCount() {
        MustardFast x = new MustardFast();
        Due.row(x, 0, BYTES, Due.codes("d5,6;e132;s251"));
        Due.is(1, x.duchy(0, BYTES, 0, 9), "the first nine");
        Due.is(-110, x.duchy(0, BYTES, 0, 10), "with the ; of another one");
        Due.is(-108, x.duchy(0, BYTES, 0, 8), "without the need");
    }

    static void noCells() {
        Edges.unchanging(Edges.busy(), -100, 0, x -> x.duchy(3, INTS, 0, 0));
    }

    static void noCellsAtTheRowsEnd() {
        Edges.unchanging(Edges.busy(), -100, 0, x -> x.duchy(3, INTS, 22, 0));
    }

    static void noCellsOfARowWithoutAny() {
        MustardFast x = Edges.busy();
        x.sheet(2, INTS, 0);
        Edges.unchanging(x, -100, 0, y -> y.duchy(2, INTS, 0, 0));
    }

    static void noCellsBeyondTheRow() {
        Edges.faulted(Due.INDEX, x -> x.duchy(3, INTS, 23, 0));
    }

    static void noCellsAheadOfTheRow() {
        Edges.faulted(Due.INDEX, x -> x.duchy(3, INTS, -1, 0));
    }

    static void noCellsOfARowWithoutAnyFrom1On() {
        MustardFast x = Edges.busy();
        x.sheet(2, INTS, 0);
        Edges.unchanging(x, -13, Due.INDEX, y -> y.duchy(2, INTS, 1, 0));
    }

    static void oneCellTooMany() {
        Edges.faulted(Due.INDEX, x -> x.duchy(3, INTS, 0, 23));
        Edges.faulted(Due.INDEX, x -> x.duchy(3, INTS, 1, 22));
        Edges.faulted(Due.INDEX, x -> x.duchy(3, INTS, 22, 1));
    }

    static void cellsAheadOfTheRow() {
        Edges.faulted(Due.INDEX, x -> x.duchy(3, INTS, -1, 22));
        Edges.faulted(Due.INDEX, x -> x.duchy(3, INTS, -22, 22));
    }

    static void cellsSoFarThatTheirSumWraps() {
        Edges.faulted(Due.INDEX, x -> x.duchy(3, INTS, 1, Integer.MAX_VALUE));
        Edges.faulted(Due.INDEX, x -> x.duchy(3, INTS, Integer.MAX_VALUE, 1));
        Edges.faulted(Due.INDEX, x -> x.duchy(3, INTS, Integer.MAX_VALUE, Integer.MAX_VALUE));
        Edges.faulted(Due.INDEX, x -> x.duchy(3, INTS, Integer.MIN_VALUE, Integer.MAX_VALUE));
        Edges.faulted(Due.INDEX, x -> x.duchy(3, INTS, Integer.MIN_VALUE, 0));
    }

    static void lengthBelow0() {
        Edges.faultedOfEach(Due.SIZE, (x, n) -> x.duchy(3, INTS, 0, n), -1, -22, Integer.MIN_VALUE);
    }

    static void sheetsThatThereAreNot() {
        Edges.refusedWithoutFaultOfEach(UNKNOWN, (x, k) -> x.duchy(k, INTS, 0, 22), -1, 4);
        Edges.refusedWithoutFaultOfEach(UNKNOWN, (x, k) -> x.duchy(k, INTS, 0, 22), Edges.FAR);
    }

    static void lanesThatThereAreNot() {
        Edges.refusedWithoutFaultOfEach(OUTSIDE, (x, lane) -> x.duchy(3, lane, 0, 22), -1, 3);
        Edges.refusedWithoutFaultOfEach(OUTSIDE, (x, lane) -> x.duchy(3, lane, 0, 22), Edges.FAR);
    }

    static void rowOfAnotherLane() {
        for (int is = 0; is < 3; is++) {
            for (int as = 0; as < 3; as++) {
                MustardFast x = new MustardFast();
                Due.row(x, 0, is, Due.codes("d5,6;e132"));
                int want = is == as ? 1 : -12;
                Due.is(x, want, is == as ? 0 : Due.CAST, x.duchy(0, as, 0, 9), is + " as " + as);
            }
        }
    }

    static void rowWithoutCellsOfAnotherLane() {
        MustardFast x = Edges.busy();
        x.sheet(2, BYTES, 0);
        Edges.unchanging(x, -12, Due.CAST, y -> y.duchy(2, INTS, 0, 0));
    }

    static void nothingIsNoCast() {
        Edges.faultedOfEach(Due.NULL, (x, lane) -> x.duchy(2, lane, 0, 22), BYTES, SHORTS, INTS);
    }

    static void sheetThatLostARowIsNoCast() {
        MustardFast x = Edges.busy();
        x.lose(1);
        Edges.unchanging(x, -11, Due.NULL, y -> y.duchy(1, INTS, 0, 2));
    }

    // ---- promise 2: of several the first

    static void unknownAheadOfAll() {
        Edges.refusedWithoutFault(UNKNOWN, x -> x.duchy(4, 3, -1, -1));
    }

    static void laneAheadOfCast() {
        Edges.refusedWithoutFault(OUTSIDE, x -> x.duchy(3, 3, -1, -1));
    }

    static void laneAheadOfNull() {
        Edges.refusedWithoutFault(OUTSIDE, x -> x.duchy(2, 3, -1, -1));
    }

    static void castAheadOfSize() {
        Edges.faulted(Due.CAST, x -> x.duchy(3, BYTES, 0, -1));
    }

    static void castAheadOfIndex() {
        Edges.faulted(Due.CAST, x -> x.duchy(3, BYTES, 23, 0));
    }

    static void castAheadOfTheText() {
        Edges.faulted(Due.CAST, x -> x.duchy(3, BYTES, 1, 4));
    }

    static void nullAheadOfSize() {
        Edges.faulted(Due.NULL, x -> x.duchy(2, BYTES, 0, -1));
    }

    static void nullAheadOfIndex() {
        Edges.faulted(Due.NULL, x -> x.duchy(2, BYTES, -1, 0));
    }

    static void sizeAheadOfIndex() {
        Edges.faulted(Due.SIZE, x -> x.duchy(3, INTS, -1, -1));
        Edges.faulted(Due.SIZE, x -> x.duchy(3, INTS, 23, -1));
    }

    static void indexAheadOfTheText() {
        Edges.faulted(Due.INDEX, x -> x.duchy(0, BYTES, 0, 4));
    }

    // ---- promise 2: all anew

    static void takenTextLeavesNoReadings() {
        MustardFast x = Edges.busy();
        Due.is(3, x.duchy(3, INTS, 0, 22), "the same text");
        Due.is(0, x.many(3), "readings");
        Due.is(0, x.reading(0, 1, 0, true), "the next one's number");
    }

    static void takenTextLeavesNoChanges() {
        MustardFast x = Edges.busy();
        x.sour(9);
        x.pull(3, 9);
        x.crave(2, 6);
        x.duchy(3, INTS, 0, 22);
        Due.is(5, x.many(2), "sour");
        Due.is(4, x.look(3), "look");
        Due.is(1, x.ofEater(2, 3), "need");
    }

    static void takenTextLeavesNoOlderEatersOrDays() {
        MustardFast x = Edges.busy();
        Due.row(x, 2, BYTES, Due.codes("d2,9;e010"));
        Due.is(1, x.duchy(2, BYTES, 0, 9), "one eater behind three");
        Due.is(UNKNOWN, x.ofEater(1, 0), "an older eater");
        Due.is(UNKNOWN, x.look(1), "an older day");
        Due.is(1, x.fasts(), "fasts");
    }

    static void takenTextLeavesSheetsAndTrace() {
        MustardFast x = Edges.busy();
        int trace = x.trace();
        x.duchy(3, INTS, 0, 22);
        Due.is(trace, x.trace(), "trace");
        Due.is(300, x.cell(1, 0, SHORTS), "another sheet");
        Due.is('d', x.cell(3, 0, INTS), "the text's own");
    }

    static void takenTextComesToNoFault() {
        MustardFast x = Edges.busy();
        Due.is(4, x.fault(), "a fault stands");
        Due.is(x, 3, 0, x.duchy(3, INTS, 0, 22), "the text");
    }

    static void takenTextDoesNotHangOnItsSheet() {
        MustardFast x = Edges.busy();
        x.put(3, 3, '0');
        x.lose(3);
        Due.is(6, x.look(0), "its first look");
        Due.is(3, x.many(0), "its eaters");
    }

    // ---- promise 3: ofEater, and how long a tongue lasts

    static void ofTheFirstAndTheLastEater() {
        MustardFast x = Due.told("d5,6;e132;s243;l354;s465");
        int[][] want = {{0, 1, 3, 2, 1}, {1, 4, 6, 5, 3}};
        for (int what = 0; what < 5; what++) {
            Due.is(want[0][what], x.ofEater(0, what), "the first one's " + what);
            Due.is(want[1][what], x.ofEater(3, what), "the last one's " + what);
        }
    }

    static void ofEatersThatThereAreNot() {
        Edges.refusedOfEach(UNKNOWN, (x, a) -> x.ofEater(a, 0), -1, 3, 4);
        Edges.refusedOfEach(UNKNOWN, (x, a) -> x.ofEater(a, 0), Edges.FAR);
        Due.is(UNKNOWN, Due.told("d5,6;e132;e132;e132;e132").ofEater(4, 0), "a fifth of four");
    }

    static void ofEaterAskedWhatIsNotTold() {
        Edges.refusedOfEach(OUTSIDE, (x, what) -> x.ofEater(0, what), -1, 5);
        Edges.refusedOfEach(OUTSIDE, (x, what) -> x.ofEater(0, what), Edges.FAR);
    }

    static void ofEaterUnknownAheadOfWhat() {
        Edges.refused(UNKNOWN, x -> x.ofEater(3, 5));
    }

    static void ofEaterWithoutADuchy() {
        Edges.refusedUntold(UNKNOWN, x -> x.ofEater(0, 0));
        Edges.refusedUntold(UNKNOWN, x -> x.ofEater(0, 5));
    }

    static void eaterLastsHisStay() {
        lasts('e', 0, 1, 2, 3, 4, 5);
    }

    static void slyLastsOneLessBut0AtLeast() {
        lasts('s', 0, 0, 1, 2, 3, 4);
    }

    static void strangerLastsHalfOfASlyOnesCut() {
        lasts('l', 0, 0, 0, 1, 1, 2);
    }

    private static void lasts(char kind, int... want) {
        for (int stay = 0; stay <= 5; stay++) {
            Due.is(want[stay], Due.told("d5,6;" + kind + stay + "10").ofEater(0, 4), kind + " of stay " + stay);
        }
    }

    // ---- promise 4: look

    static void lookOfTheFirstAndTheLastDay() {
        MustardFast x = Due.told("d5,712348;e132");
        Due.is(7, x.look(0), "day 0");
        Due.is(8, x.look(5), "day 5");
    }

    static void lookOfDaysThatThereAreNot() {
        Edges.refusedOfEach(UNKNOWN, (x, d) -> x.look(d), -1, 4, 5, 6);
        Edges.refusedOfEach(UNKNOWN, (x, d) -> x.look(d), Edges.FAR);
        Due.is(UNKNOWN, Due.told("d5,666666;e132").look(6), "a seventh of six");
        Due.is(UNKNOWN, Due.told("d5,6;e132").look(1), "a second of one");
    }

    static void lookWithoutADuchy() {
        Edges.refusedUntold(UNKNOWN, x -> x.look(0));
    }

    // ---- promise 5: pull

    static void pullToTheLeastAndTheMost() {
        MustardFast x = Edges.busy();
        Due.is(6, x.pull(0, 0), "what it was");
        Due.is(0, x.pull(0, 9), "0");
        Due.is(9, x.look(0), "9");
    }

    static void pullToWhatItIs() {
        MustardFast x = Edges.busy();
        Due.is(6, x.pull(0, 6), "what it was");
        Due.is(6, x.look(0), "what it is");
    }

    static void pullOfTheLastDay() {
        MustardFast x = Edges.busy();
        Due.is(4, x.pull(3, 8), "what it was");
        Due.is(8, x.look(3), "what it is");
        Due.is(7, x.look(2), "the day ahead of it");
    }

    static void pullToLooksThatThereAreNot() {
        Edges.refusedOfEach(OUTSIDE, (x, v) -> x.pull(0, v), -1, 10);
        Edges.refusedOfEach(OUTSIDE, (x, v) -> x.pull(0, v), Edges.FAR);
    }

    static void pullOfDaysThatThereAreNot() {
        Edges.refusedOfEach(UNKNOWN, (x, d) -> x.pull(d, 1), -1, 4, 5, 6);
        Edges.refusedOfEach(UNKNOWN, (x, d) -> x.pull(d, 1), Edges.FAR);
    }

    static void pullUnknownAheadOfOutside() {
        Edges.refused(UNKNOWN, x -> x.pull(4, 10));
    }

    static void pullWithoutADuchy() {
        Edges.refusedUntold(UNKNOWN, x -> x.pull(0, 5));
        Edges.refusedUntold(UNKNOWN, x -> x.pull(0, 10));
    }

    static void pullNamesNoFault() {
        MustardFast x = Edges.busy();
        x.pull(0, 5);
        Due.is(4, x.fault(), "the fault that stands");
    }

    // ---- promise 6: sour

    static void sourToTheLeastAndTheMost() {
        MustardFast x = Edges.busy();
        Due.is(5, x.sour(0), "what it was");
        Due.is(0, x.sour(9), "0");
        Due.is(9, x.sour(9), "9");
        Due.is(9, x.many(2), "what it is");
    }

    static void sourToLooksThatThereAreNot() {
        Edges.refusedOfEach(OUTSIDE, (x, v) -> x.sour(v), -1, 10);
        Edges.refusedOfEach(OUTSIDE, (x, v) -> x.sour(v), Edges.FAR);
    }

    static void sourWithoutADuchy() {
        Edges.refusedUntold(STATE, x -> x.sour(0));
        Edges.refusedUntold(STATE, x -> x.sour(9));
    }

    static void sourOutsideAheadOfState() {
        Edges.refusedUntold(OUTSIDE, x -> x.sour(-1));
        Edges.refusedUntold(OUTSIDE, x -> x.sour(10));
    }

    // ---- promise 7: crave

    static void craveTheLeastAndTheMost() {
        MustardFast x = Edges.busy();
        Due.is(2, x.crave(0, 6), "what it was");
        Due.is(6, x.crave(0, 0), "6, more than there are days");
        Due.is(0, x.ofEater(0, 3), "0");
    }

    static void craveOfTheLastEater() {
        MustardFast x = Edges.busy();
        Due.is(1, x.crave(2, 4), "what it was");
        Due.is(4, x.ofEater(2, 3), "what it is");
        Due.is(1, x.ofEater(1, 3), "the one ahead");
    }

    static void craveNeedsThatThereAreNot() {
        Edges.refusedOfEach(OUTSIDE, (x, v) -> x.crave(0, v), -1, 7);
        Edges.refusedOfEach(OUTSIDE, (x, v) -> x.crave(0, v), Edges.FAR);
    }

    static void craveOfEatersThatThereAreNot() {
        Edges.refusedOfEach(UNKNOWN, (x, a) -> x.crave(a, 1), -1, 3, 4);
        Edges.refusedOfEach(UNKNOWN, (x, a) -> x.crave(a, 1), Edges.FAR);
    }

    static void craveUnknownAheadOfOutside() {
        Edges.refused(UNKNOWN, x -> x.crave(3, 7));
    }

    static void craveWithoutADuchy() {
        Edges.refusedUntold(UNKNOWN, x -> x.crave(0, 1));
        Edges.refusedUntold(UNKNOWN, x -> x.crave(0, 7));
    }

    // ---- promise 31: many

    static void manyOfEach() {
        MustardFast x = Edges.busy();
        Due.is(3, x.many(0), "eaters");
        Due.is(4, x.many(1), "days");
        Due.is(5, x.many(2), "sour");
        Due.is(2, x.many(3), "readings");
    }

    static void manyOfTheLeast() {
        MustardFast x = Due.told("d0,0;e010");
        int[] want = {1, 1, 0, 0};
        for (int what = 0; what < 4; what++) {
            Due.is(want[what], x.many(what), "many " + what);
        }
    }

    static void manyOfTheMost() {
        MustardFast x = Due.told("d9,999999;e010;e010;e010;e010");
        for (int r = 0; r < 8; r++) {
            x.reading(0, 0, 0, false);
        }
        int[] want = {4, 6, 9, 8};
        for (int what = 0; what < 4; what++) {
            Due.is(want[what], x.many(what), "many " + what);
        }
    }

    static void manyIsAll0WithoutADuchy() {
        for (int what = 0; what < 4; what++) {
            Due.is(0, Edges.untold().many(what), "many " + what);
        }
    }

    static void manyStaysBehindATextThatIsNotTaken() {
        MustardFast x = Edges.untold();
        Due.is(-121, x.duchy(3, INTS, 0, 21), "a text that ends too soon");
        for (int what = 0; what < 4; what++) {
            Due.is(0, x.many(what), "many " + what);
        }
    }

    static void manyOfWhatIsNotTold() {
        Edges.refusedOfEach(OUTSIDE, (x, what) -> x.many(what), -1, 4);
        Edges.refusedOfEach(OUTSIDE, (x, what) -> x.many(what), Edges.FAR);
    }

    static void manyOfWhatIsNotToldWithoutADuchy() {
        Edges.refusedUntold(OUTSIDE, x -> x.many(-1));
        Edges.refusedUntold(OUTSIDE, x -> x.many(4));
    }
}
