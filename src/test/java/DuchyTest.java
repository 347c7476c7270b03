/** Promises 1 to 7 and 31: a new object, the text, eaters and days, and what changes of them. */
public final class DuchyTest {
    public static void main(String[] args) {
        newObject();
        textsThatAreTaken();
        firstFaults();
        everyCodeAtEveryPlace();
        textOutOfALongerRow();
        refusalsOfDuchy();
        aTextThatIsNotTakenChangesNothing();
        aTextThatIsTakenMakesAllAnew();
        ofEater();
        lasts();
        look();
        pull();
        sour();
        crave();
        many();
        Due.end();
    }

    private static void newObject() {
        MustardFast x = new MustardFast();
        for (int what = 0; what <= 3; what++) {
            Due.is(0, x.many(what), "new: many " + what);
        }
        Due.is(-1, x.ofEater(0, 0), "new: ofEater");
        Due.is(-1, x.look(0), "new: look");
        Due.is(-1, x.pull(0, 0), "new: pull");
        Due.is(-3, x.sour(0), "new: sour");
        Due.is(-1, x.crave(0, 0), "new: crave");
        Due.is(-3, x.fasts(), "new: fasts");
        Due.is(-3, x.village(), "new: village");
        Due.is(-3, x.smile(0), "new: smile");
        Due.is(-3, x.sours(), "new: sours");
        Due.is(0, x.trace(), "new: trace");
        Due.is(0, x.fault(), "new: fault");
        for (int k = 0; k < 4; k++) {
            Due.is(0, x.lose(k), "new: lose " + k);
            Due.is(-11, x.put(k, 0, 0), "new: put " + k);
        }
    }

    private static void textsThatAreTaken() {
        MustardFast x = new MustardFast();
        Due.is(1, Due.tell(x, "d0,0;e010"), "the shortest text");
        Due.is(4, Due.tell(x, "d9,999999;l596;s596;e596;l596"), "the longest text");
        Due.is(6, x.many(1), "days of the longest text");
        Due.is(3, Due.tell(x, Due.VILLAGE), "three eaters");
        int[] codes = Due.codes(Due.VILLAGE);
        for (int lane = 0; lane <= 2; lane++) {
            MustardFast y = new MustardFast();
            Due.row(y, lane, lane, codes);
            Due.is(y, 3, 0, y.duchy(lane, lane, 0, codes.length), "a text in lane " + lane);
        }
    }

    private static void firstFaults() {
        fault("", 0);
        fault("D", 0);
        fault("d", 1);
        fault("dx", 1);
        fault("d,", 1);
        fault("d5", 2);
        fault("d55", 2);
        fault("d5;", 2);
        fault("d5,", 3);
        fault("d5,;", 3);
        fault("d5,x", 3);
        fault("d5,6", 4);
        fault("d5,6,", 4);
        fault("d5,123456", 9);
        fault("d5,1234567", 9);
        fault("d5,123456x", 9);
        fault("d5,6;", 5);
        fault("d5,6;d", 5);
        fault("d5,6;a132", 5);
        fault("d5,6;E132", 5);
        fault("d5,6;e", 6);
        fault("d5,6;e6", 6);
        fault("d5,6;ex", 6);
        fault("d5,6;e5", 7);
        fault("d5,6;e50", 7);
        fault("d5,6;e5x", 7);
        fault("d5,6;e51", 8);
        fault("d5,6;e517", 8);
        fault("d5,6;e51x", 8);
        fault("d5,6;e5160", 9);
        fault("d5,6;e516,", 9);
        fault("d5,6;e516;", 10);
        fault("d5,6;e516;e516;e516;e516;", 24);
        fault("d5,6;e516;e516;e516;e516x", 24);
        fault("d5,6;e516;e516;e516;e51", 23);
        fault("d5,6;e516;e516;e516;e516;e516", 24);
    }

    private static void fault(String text, int place) {
        MustardFast x = new MustardFast();
        Due.row(x, 0, Due.SHORTS, Due.codes(text));
        Due.is(x, -100 - place, 0, x.duchy(0, Due.SHORTS, 0, text.length()), "duchy of '" + text + "'");
        Due.is(0, x.many(0), "eaters behind '" + text + "'");
    }

    /** What may stand at each place of a text of one day and one eater; codes near 0 and beyond 255 too. */
    private static void everyCodeAtEveryPlace() {
        String[] may = {"d", "0123456789", ",", "0123456789", "0123456789;", "esl", "012345", "123456789", "0123456"};
        for (int place = 0; place < may.length; place++) {
            for (int code = -2; code < 260; code += code < 40 || code > 125 ? 7 : 1) {
                MustardFast x = new MustardFast();
                int[] codes = Due.codes("d5,6;e132");
                codes[place] = code;
                Due.row(x, 0, Due.INTS, codes);
                boolean goesOn = code >= 0 && may[place].indexOf(code) >= 0;
                int got = x.duchy(0, Due.INTS, 0, codes.length);
                if (place == 4 && code != ';' && goesOn) {
                    Due.is(-105, got, "a second day ahead of an e");
                } else {
                    Due.is(goesOn ? 1 : -100 - place, got, "code " + code + " at " + place);
                }
            }
        }
        MustardFast x = new MustardFast();
        int[] codes = Due.codes("d5,6;e132");
        codes[0] += 256;
        Due.row(x, 0, Due.INTS, codes);
        Due.is(-100, x.duchy(0, Due.INTS, 0, codes.length), "a code is a whole number, not its lowest byte");
        Due.row(x, 0, Due.BYTES, codes);
        Due.is(1, x.duchy(0, Due.BYTES, 0, codes.length), "a code is what is left in the lane");
    }

    private static void textOutOfALongerRow() {
        MustardFast x = new MustardFast();
        Due.row(x, 0, Due.BYTES, Due.codes("xxd3,79;s240;"));
        Due.is(1, x.duchy(0, Due.BYTES, 2, 10), "a text from 2 on");
        Due.is(3, x.many(2), "its sour");
        Due.is(2, x.many(1), "its days");
        Due.is(9, x.look(1), "its last look");
        Due.is(4, x.ofEater(0, 2), "its spoons");
        Due.is(-111, x.duchy(0, Due.BYTES, 2, 11), "the fault's place is told from the text's beginning");
        Due.is(-109, x.duchy(0, Due.BYTES, 2, 9), "where the text ends too soon, too");
    }

    private static void refusalsOfDuchy() {
        MustardFast x = new MustardFast();
        Due.row(x, 1, Due.BYTES, Due.codes("d5,6;e132"));
        x.as(0, 0);
        Due.is(x, -1, 0, x.duchy(-1, 3, -1, -1), "sheet -1");
        Due.is(x, -1, 0, x.duchy(4, 3, -1, -1), "sheet 4");
        Due.is(x, -2, 0, x.duchy(1, 3, -1, -1), "lane 3");
        Due.is(x, -2, 0, x.duchy(0, -1, -1, -1), "lane -1, of nothing");
        Due.is(x, -12, 2, x.duchy(1, Due.INTS, -1, -1), "another lane");
        Due.is(x, -11, 1, x.duchy(0, Due.INTS, -1, -1), "nothing");
        Due.is(x, -14, 4, x.duchy(1, Due.BYTES, -1, -1), "length -1");
        Due.is(x, -14, 4, x.duchy(1, Due.BYTES, 0, Integer.MIN_VALUE), "least length");
        Due.is(x, -13, 3, x.duchy(1, Due.BYTES, -1, 0), "from -1 on");
        Due.is(x, -13, 3, x.duchy(1, Due.BYTES, 10, 0), "no cells beyond the row");
        Due.is(x, -100, 0, x.duchy(1, Due.BYTES, 9, 0), "no cells at the row's end");
        Due.is(x, -13, 3, x.duchy(1, Due.BYTES, 0, 10), "one cell too many");
        Due.is(x, -13, 3, x.duchy(1, Due.BYTES, 1, Integer.MAX_VALUE), "far too many cells");
        Due.is(x, -13, 3, x.duchy(1, Due.BYTES, Integer.MAX_VALUE, Integer.MAX_VALUE), "far beyond");
        Due.is(x, -13, 3, x.duchy(1, Due.BYTES, Integer.MIN_VALUE, 1), "far below");
        Due.is(0, x.many(0), "still no eaters");
        Due.is(x, 1, 0, x.duchy(1, Due.BYTES, 0, 9), "then the text");
    }

    private static void aTextThatIsNotTakenChangesNothing() {
        MustardFast x = Due.told(Due.VILLAGE);
        x.reading(0, 1, 0, true);
        Due.is(-109, Due.tell(x, "d9,1;l596"  + ","), "a text with a fault behind an eater");
        Due.is(-2, x.duchy(3, 7, 0, 9), "a refusal");
        Due.is(-13, x.duchy(3, Due.INTS, 0, 50), "a fault");
        Due.is(3, x.many(0), "eaters as they were");
        Due.is(4, x.many(1), "days as they were");
        Due.is(5, x.many(2), "sour as it was");
        Due.is(1, x.many(3), "readings as they were");
        Due.is(6, x.look(0), "looks as they were");
    }

    private static void aTextThatIsTakenMakesAllAnew() {
        MustardFast x = Due.told(Due.VILLAGE);
        x.reading(0, 1, 0, true);
        x.pull(0, 9);
        x.crave(0, 6);
        x.tell(0);
        Due.row(x, 1, Due.INTS, 77);
        Due.is(1, Due.tell(x, "d2,13;e014"), "a shorter text");
        Due.is(1, x.many(0), "eaters anew");
        Due.is(2, x.many(1), "days anew");
        Due.is(2, x.many(2), "sour anew");
        Due.is(0, x.many(3), "no readings");
        Due.is(1, x.look(0), "looks anew");
        Due.is(4, x.ofEater(0, 3), "need anew");
        Due.is(-1, x.look(2), "no third day");
        Due.is(-1, x.ofEater(1, 0), "no second eater");
        Due.is(1, x.trace(), "trace stays");
        Due.is(77, x.cell(1, 0, Due.INTS), "sheets stay");
    }

    private static void ofEater() {
        MustardFast x = Due.told(Due.VILLAGE);
        int[][] want = {{0, 1, 3, 2, 1}, {1, 2, 5, 1, 1}, {2, 5, 4, 1, 2}};
        for (int a = 0; a < 3; a++) {
            for (int what = 0; what < 5; what++) {
                Due.is(want[a][what], x.ofEater(a, what), "ofEater " + a + " " + what);
            }
            Due.is(-2, x.ofEater(a, 5), "ofEater 5");
            Due.is(-2, x.ofEater(a, -1), "ofEater -1");
        }
        Due.is(-1, x.ofEater(3, 5), "ofEater of nobody ahead of what");
        Due.is(-1, x.ofEater(-1, 0), "ofEater -1");
        Due.is(-1, x.ofEater(4, 0), "ofEater 4");
        Due.is(-1, x.ofEater(Integer.MIN_VALUE, 0), "ofEater far below");
    }

    private static void lasts() {
        int[] ofSly = {0, 0, 1, 2, 3, 4};
        int[] ofStranger = {0, 0, 0, 1, 1, 2};
        for (int stay = 0; stay <= 5; stay++) {
            MustardFast x = Due.told("d5,6;e" + stay + "10;s" + stay + "10;l" + stay + "10");
            Due.is(stay, x.ofEater(0, 4), "an eater's lasts of " + stay);
            Due.is(ofSly[stay], x.ofEater(1, 4), "a sly one's lasts of " + stay);
            Due.is(ofStranger[stay], x.ofEater(2, 4), "a stranger's lasts of " + stay);
        }
    }

    private static void look() {
        MustardFast x = Due.told("d5,012389;e132");
        int[] want = {0, 1, 2, 3, 8, 9};
        for (int d = 0; d < 6; d++) {
            Due.is(want[d], x.look(d), "look " + d);
        }
        Due.is(-1, x.look(-1), "look -1");
        Due.is(-1, x.look(6), "look 6");
        Due.is(-1, Due.told(Due.VILLAGE).look(4), "look of a fifth day of four");
    }

    private static void pull() {
        MustardFast x = Due.told(Due.VILLAGE);
        Due.is(3, x.pull(1, 9), "pull tells what it was");
        Due.is(9, x.pull(1, 0), "pull again");
        Due.is(0, x.look(1), "look behind pull");
        Due.is(6, x.look(0), "other days stay");
        Due.is(-1, x.pull(4, 10), "no such day, ahead of a wrong look");
        Due.is(-1, x.pull(-1, 1), "day -1");
        Due.is(-2, x.pull(1, 10), "look 10");
        Due.is(-2, x.pull(1, -1), "look -1");
        Due.is(0, x.look(1), "look behind refusals");
        x.pull(1, 5);
        Due.is(7, x.fasts(), "a pulled face makes a fast");
    }

    private static void sour() {
        MustardFast x = new MustardFast();
        Due.is(-2, x.sour(10), "sour 10 ahead of no duchy");
        Due.is(-2, x.sour(-1), "sour -1 ahead of no duchy");
        Due.is(-3, x.sour(9), "sour without a duchy");
        Due.is(0, x.many(2), "sour stays 0");
        Due.tell(x, Due.VILLAGE);
        Due.is(5, x.sour(9), "sour tells what it was");
        Due.is(9, x.sour(0), "sour again");
        Due.is(0, x.many(2), "sour is 0");
        Due.is(-2, x.sour(10), "sour 10");
        Due.is(-2, x.sour(-1), "sour -1");
        Due.is(0, x.many(2), "sour behind refusals");
    }

    private static void crave() {
        MustardFast x = Due.told(Due.VILLAGE);
        Due.is(2, x.crave(0, 6), "crave tells what it was");
        Due.is(6, x.crave(0, 0), "crave again");
        Due.is(0, x.ofEater(0, 3), "need behind crave");
        Due.is(1, x.ofEater(1, 3), "other needs stay");
        Due.is(-1, x.crave(3, 7), "nobody ahead of a wrong need");
        Due.is(-1, x.crave(-1, 1), "eater -1");
        Due.is(-2, x.crave(0, 7), "need 7");
        Due.is(-2, x.crave(0, -1), "need -1");
        Due.is(0, x.ofEater(0, 3), "need behind refusals");
    }

    private static void many() {
        MustardFast x = Due.told(Due.VILLAGE);
        x.reading(0, 0, 0, true);
        x.reading(0, 0, 0, true);
        int[] want = {3, 4, 5, 2};
        for (int what = 0; what < 4; what++) {
            Due.is(want[what], x.many(what), "many " + what);
        }
        Due.is(-2, x.many(4), "many 4");
        Due.is(-2, x.many(-1), "many -1");
        Due.is(-2, new MustardFast().many(4), "many 4 without a duchy");
    }
}
