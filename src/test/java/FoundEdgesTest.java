/** Boundary cases of promises 8 to 11, each by itself: fasts, yellow days, who is found, plans. */
public final class FoundEdgesTest {
    private static final int UNKNOWN = -1, OUTSIDE = -2, STATE = -3, NONE = -9;
    private static final int BYTES = 0, SHORTS = 1, INTS = 2;

    public static void main(String[] args) throws ReflectiveOperationException {
        Edges.all(FoundEdgesTest.class);
    }

    // ---- promise 8: fasts

    static void lookAsSourAsSourIsAFast() {
        Due.is(1, Due.told("d5,5;e132").fasts(), "as sour");
        Due.is(0, Due.told("d5,4;e132").fasts(), "one less");
        Due.is(1, Due.told("d5,6;e132").fasts(), "one more");
    }

    static void sour0MakesAllDaysFasts() {
        Due.is(63, Due.told("d0,000000;e132").fasts(), "six days");
        Due.is(1, Due.told("d0,0;e132").fasts(), "one day");
    }

    static void sour9TakesTheSourestAlone() {
        Due.is(0b100000, Due.told("d9,888889;e132").fasts(), "the last day");
    }

    static void noFasts() {
        Due.is(0, Due.told("d9,888888;e132").fasts(), "six days");
    }

    static void olderDaysAreNoFasts() {
        MustardFast x = Due.told("d5,999999;e132");
        Due.tell(x, "d5,94;e132");
        Due.is(1, x.fasts(), "of two days");
        x.sour(0);
        Due.is(3, x.fasts(), "all of two days");
    }

    static void fastsFollowPullAndSour() {
        MustardFast x = Edges.busy();
        x.pull(0, 4);
        Due.is(4, x.fasts(), "a look below sour");
        x.sour(4);
        Due.is(13, x.fasts(), "sour 4");
    }

    static void fastsWithoutADuchy() {
        Edges.refusedUntold(STATE, x -> x.fasts());
    }

    // ---- promise 9: yellow

    static void yellowOnTheDayOfTheMealToo() {
        MustardFast x = Due.told("d5,666666;e010");
        for (int d = 0; d < 6; d++) {
            Due.is(1 << d, x.yellow(0, 1 << d), "day " + d + " of stay 0");
        }
    }

    static void yellowToTheLastDayThatItLasts() {
        for (int stay = 0; stay <= 5; stay++) {
            int want = (1 << stay + 1) - 1;
            Due.is(want, Due.told("d5,666666;e" + stay + "10").yellow(0, 1), "stay " + stay);
        }
    }

    static void yellowBehindTheLastDayIsNoDay() {
        Due.is(32, Due.told("d5,666666;e510").yellow(0, 32), "the sixth of six");
        Due.is(1, Due.told("d5,6;e510").yellow(0, 1), "the first of one");
        Due.is(12, Due.told("d5,6666;e510").yellow(0, 4), "the third of four");
    }

    static void yellowOfASlyOneOfStay0() {
        Due.is(1, Due.told("d5,666666;s010").yellow(0, 1), "0 at least");
        Due.is(1, Due.told("d5,666666;s110").yellow(0, 1), "stay 1");
        Due.is(31, Due.told("d5,666666;s510").yellow(0, 1), "stay 5");
    }

    static void yellowOfAStranger() {
        int[] want = {1, 1, 1, 3, 3, 7};
        for (int stay = 0; stay <= 5; stay++) {
            Due.is(want[stay], Due.told("d5,666666;l" + stay + "10").yellow(0, 1), "stay " + stay);
        }
    }

    static void yellowOfNoMeal() {
        for (int a = 0; a < 3; a++) {
            Due.is(0, Edges.busy().yellow(a, 0), "eater " + a);
        }
    }

    static void yellowOfMealsOnAllDays() {
        Due.is(15, Edges.busy().yellow(0, 15), "four days");
        Due.is(63, Due.told("d5,666666;e010").yellow(0, 63), "six days");
    }

    static void yellowOfMealsThatOverlap() {
        Due.is(0b011111, Due.told("d5,666666;e210").yellow(0, 0b000101), "days 0 and 2");
    }

    static void yellowWhereMealsLeaveAGap() {
        Due.is(0b110011, Due.told("d5,666666;e110").yellow(0, 0b010001), "days 0 and 4");
    }

    static void yellowHasNothingToDoWithFasts() {
        Due.is(15, Due.told("d9,0000;e310").yellow(0, 1), "no fast at all");
    }

    static void yellowOfDaysThatThereAreNot() {
        Edges.refusedOfEach(OUTSIDE, (x, set) -> x.yellow(0, set), -1, 16, 31, 32, 64);
        Edges.refusedOfEach(OUTSIDE, (x, set) -> x.yellow(0, set), Edges.FAR);
        Due.is(OUTSIDE, Due.told("d5,666666;e132").yellow(0, 64), "a seventh of six");
        Due.is(OUTSIDE, Due.told("d5,6;e132").yellow(0, 2), "a second of one");
    }

    static void yellowOfEatersThatThereAreNot() {
        Edges.refusedOfEach(UNKNOWN, (x, a) -> x.yellow(a, 1), -1, 3, 4);
        Edges.refusedOfEach(UNKNOWN, (x, a) -> x.yellow(a, 1), Edges.FAR);
    }

    static void yellowUnknownAheadOfOutside() {
        Edges.refused(UNKNOWN, x -> x.yellow(3, 16));
    }

    static void yellowWithoutADuchy() {
        Edges.refusedUntold(UNKNOWN, x -> x.yellow(0, 0));
    }

    // ---- promise 10: found

    static void foundOnAFastByTheDaysMeal() {
        Due.is(1, Edges.busy().found(0, 1, 0), "day 0");
    }

    static void foundOnAFastByAnEarlierMeal() {
        Due.is(4, Edges.busy().found(0, 2, 0), "the day behind the meal");
    }

    static void notFoundOnAFastIfNotYellow() {
        Due.is(0, Edges.busy().found(0, 8, 0), "a meal behind the fasts");
        Due.is(1, Edges.busy().found(0, 1, 0), "not on day 2, too late for the meal");
    }

    static void notFoundIfYellowOnNoFast() {
        Due.is(0, Due.told("d9,8888;e310").found(0, 15, 0), "no fasts");
    }

    static void foundByNoMeal() {
        Due.is(0, Edges.busy().found(0, 0, 0), "days");
        Due.is(0, Edges.busy().found(0, 0, 1), "fine");
    }

    static void foundOnAllDays() {
        Due.is(63, Due.told("d0,000000;e593").found(0, 1, 0), "by one meal");
        Due.is(54, Due.told("d0,000000;e593").found(0, 1, 1), "the dearest fine");
        Due.is(54, Due.told("d0,000000;e593").found(0, 63, 1), "a day counts once, however many meals");
    }

    static void fineIsSpoonsForEachDay() {
        Due.is(1, Due.told("d5,9;e010").found(0, 1, 1), "one spoon, one day: need has nothing to do with it");
        Due.is(5 + 5, Edges.busy().found(1, 5, 1), "two days of five spoons");
    }

    static void foundOfDaysThatThereAreNot() {
        Edges.refusedOfEach(OUTSIDE, (x, set) -> x.found(0, set, 0), -1, 16, 64);
        Edges.refusedOfEach(OUTSIDE, (x, set) -> x.found(0, set, 1), Edges.FAR);
    }

    static void foundAskedWhatIsNotTold() {
        Edges.refusedOfEach(OUTSIDE, (x, what) -> x.found(0, 1, what), -1, 2);
        Edges.refusedOfEach(OUTSIDE, (x, what) -> x.found(0, 1, what), Edges.FAR);
    }

    static void foundOfEatersThatThereAreNot() {
        Edges.refusedOfEach(UNKNOWN, (x, a) -> x.found(a, 1, 0), -1, 3, 4);
        Edges.refusedOfEach(UNKNOWN, (x, a) -> x.found(a, 1, 0), Edges.FAR);
    }

    static void foundUnknownAheadOfOutside() {
        Edges.refused(UNKNOWN, x -> x.found(3, 16, 0));
        Edges.refused(UNKNOWN, x -> x.found(3, 1, 2));
    }

    static void foundWithoutADuchy() {
        Edges.refusedUntold(UNKNOWN, x -> x.found(0, 0, 0));
    }

    // ---- promise 11: what a plan tells

    static void planOfOneEater() {
        MustardFast x = Due.told("d5,9;e010");
        Due.is(1, Due.plan(x, 0, 1), "fines");
    }

    static void planOfFourEaters() {
        MustardFast x = Due.told("d0,000000;e590;e590;e590;e590");
        Due.is(216, Due.plan(x, 0, 1, 1, 1, 1), "the dearest plan");
        Due.is(15, Due.plan(x, 2, 1, 1, 1, 1), "all are found");
        Due.is(4, Due.plan(x, 10, 1, 1, 1, 1), "four on the first day");
        Due.is(4, Due.plan(x, 15, 1, 1, 1, 1), "four on the last day");
    }

    static void planByWhichNobodyEats() {
        MustardFast x = Edges.busy();
        Due.is(0, Due.plan(x, 0, 0, 0, 0), "fines");
        Due.is(NONE, Due.plan(x, 1, 0, 0, 0), "first day");
        Due.is(0, Due.plan(x, 2, 0, 0, 0), "who is found");
        Due.is(7, Due.plan(x, 3, 0, 0, 0), "who eats less often");
        Due.is(0, Due.plan(x, 10, 0, 0, 0), "how many on day 0");
    }

    static void planByWhichAllEatAlways() {
        MustardFast x = Edges.busy();
        Due.is(6 + 10 + 8, Due.plan(x, 0, 15, 15, 15), "fines");
        Due.is(0, Due.plan(x, 1, 15, 15, 15), "first day");
        Due.is(7, Due.plan(x, 2, 15, 15, 15), "who is found");
        Due.is(0, Due.plan(x, 3, 15, 15, 15), "who eats less often");
        Due.is(3, Due.plan(x, 12, 15, 15, 15), "how many on day 2");
        Due.is(0, Due.plan(x, 13, 15, 15, 15), "how many on a day that is no fast");
    }

    static void planFirstDayIsTheLastDay() {
        MustardFast x = Due.told("d9,000009;e010");
        Due.is(5, Due.plan(x, 1, 63), "day 5");
    }

    static void planFirstDayOfAnyEater() {
        MustardFast x = Edges.busy();
        Due.is(0, Due.plan(x, 1, 8, 4, 1), "the last eater is the first to be found");
        Due.is(2, Due.plan(x, 1, 8, 4, 8), "the second eater alone is found");
    }

    static void planFirstDayNone() {
        MustardFast x = Edges.busy();
        Due.is(x, NONE, 0, Due.plan(x, 1, 8, 8, 8), "meals behind the fasts");
    }

    static void planOfWhoEatsAsOftenAsHeNeeds() {
        MustardFast x = Edges.busy();
        Due.is(0, Due.plan(x, 3, 3, 1, 1), "as often");
        Due.is(1, Due.plan(x, 3, 8, 1, 1), "once less");
        Due.is(0, Due.plan(x, 3, 7, 3, 3), "once more");
    }

    static void planOfWhoNeedsNothing() {
        MustardFast x = Due.told("d5,6;e010");
        Due.is(0, Due.plan(x, 3, 0), "no meal");
    }

    static void planOfWhoNeedsMoreThanThereAreDays() {
        MustardFast x = Due.told("d5,6;e016");
        Due.is(1, Due.plan(x, 3, 1), "each day there is");
    }

    static void planOfWhoNeedsMoreByCraving() {
        MustardFast x = Edges.busy();
        x.crave(2, 3);
        Due.is(4, Due.plan(x, 3, 3, 1, 3), "two meals for three");
    }

    static void planOfTheLastDay() {
        MustardFast x = Due.told("d5,6669;e110");
        Due.is(1, Due.plan(x, 13, 8), "day 3 of four");
    }

    static void planOfDaysThatThereAreNotIsNone() {
        MustardFast x = Edges.busy();
        Due.is(x, NONE, 0, Due.plan(x, 14, 1, 1, 1), "day 4 of four");
        Due.is(x, NONE, 0, Due.plan(x, 15, 1, 1, 1), "day 5 of four");
        Due.is(NONE, Due.plan(Due.told("d5,6;e132"), 11, 1), "day 1 of one");
    }

    static void planOfDay5OfSix() {
        Due.is(1, Due.plan(Due.told("d5,666669;e010"), 15, 32), "day 5");
    }

    static void planChangesNothing() {
        Edges.unchanging(Edges.busy(), 12, 0, x -> x.plan(0, BYTES, 0, 3, 0));
    }

    // ---- promise 11: cells of a sheet

    static void planOfEachLane() {
        for (int lane = 0; lane < 3; lane++) {
            MustardFast x = Edges.busy();
            Due.row(x, 2, lane, 1, 2, 4);
            Due.is(x, 12, 0, x.plan(2, lane, 0, 3, 0), "lane " + lane);
        }
    }

    static void planAtTheRowsEnd() {
        MustardFast x = Edges.busy();
        Due.row(x, 2, SHORTS, 99, 1, 2, 4);
        Due.is(x, 12, 0, x.plan(2, SHORTS, 1, 3, 0), "from 1 on");
    }

    static void planAtTheEndOfTheLongestRow() {
        MustardFast x = Edges.busy();
        x.sheet(2, INTS, 60);
        x.put(2, 57, 1);
        x.put(2, 58, 2);
        x.put(2, 59, 4);
        Due.is(x, 12, 0, x.plan(2, INTS, 57, 3, 0), "the last three cells");
        Due.is(x, -13, Due.INDEX, x.plan(2, INTS, 58, 3, 0), "one on");
    }

    static void planTooLongForItsRow() {
        Edges.faulted(Due.INDEX, x -> x.plan(0, BYTES, 1, 3, 0));
        Edges.faulted(Due.INDEX, x -> x.plan(0, BYTES, 0, 4, 0));
        Edges.faulted(Due.INDEX, x -> x.plan(0, BYTES, 3, 1, 0));
    }

    static void planAheadOfItsRow() {
        Edges.faulted(Due.INDEX, x -> x.plan(0, BYTES, -1, 3, 0));
    }

    static void planOfNoCellsBeyondItsRow() {
        Edges.faulted(Due.INDEX, x -> x.plan(0, BYTES, 4, 0, 0));
        Edges.faulted(Due.INDEX, x -> x.plan(0, BYTES, -1, 0, 0));
    }

    static void planSoFarThatTheSumWraps() {
        Edges.faulted(Due.INDEX, x -> x.plan(0, BYTES, 1, Integer.MAX_VALUE, 0));
        Edges.faulted(Due.INDEX, x -> x.plan(0, BYTES, Integer.MAX_VALUE, 3, 0));
        Edges.faulted(Due.INDEX, x -> x.plan(0, BYTES, Integer.MIN_VALUE, 3, 0));
    }

    static void planOfALengthBelow0() {
        Edges.faultedOfEach(Due.SIZE, (x, n) -> x.plan(0, BYTES, 0, n, 0), -1, -3, Integer.MIN_VALUE);
    }

    static void planOfNothing() {
        Edges.faultedOfEach(Due.NULL, (x, lane) -> x.plan(2, lane, 0, 3, 0), BYTES, SHORTS, INTS);
    }

    static void planOfAnotherLane() {
        Edges.faulted(Due.CAST, x -> x.plan(0, SHORTS, 0, 3, 0));
        Edges.faulted(Due.CAST, x -> x.plan(0, INTS, 0, 3, 0));
        Edges.faulted(Due.CAST, x -> x.plan(1, BYTES, 0, 3, 0));
        Edges.faulted(Due.CAST, x -> x.plan(3, SHORTS, 0, 3, 0));
    }

    static void planOfSheetsThatThereAreNot() {
        Edges.refusedWithoutFaultOfEach(UNKNOWN, (x, k) -> x.plan(k, BYTES, 0, 3, 0), -1, 4);
        Edges.refusedWithoutFaultOfEach(UNKNOWN, (x, k) -> x.plan(k, BYTES, 0, 3, 0), Edges.FAR);
    }

    static void planOfLanesThatThereAreNot() {
        Edges.refusedWithoutFaultOfEach(OUTSIDE, (x, lane) -> x.plan(0, lane, 0, 3, 0), -1, 3);
        Edges.refusedWithoutFaultOfEach(OUTSIDE, (x, lane) -> x.plan(0, lane, 0, 3, 0), Edges.FAR);
    }

    static void planAskedWhatIsNotTold() {
        Edges.refusedWithoutFaultOfEach(OUTSIDE, (x, what) -> x.plan(0, BYTES, 0, 3, what), -1, 4, 9, 16);
        Edges.refusedWithoutFaultOfEach(OUTSIDE, (x, what) -> x.plan(0, BYTES, 0, 3, what), Edges.FAR);
    }

    static void planAskedWhatIsToldOutermost() {
        int[] whats = {0, 3, 10, 15};
        int[] wants = {12, 1, 1, NONE};
        for (int w = 0; w < whats.length; w++) {
            MustardFast x = Edges.busy();
            Due.is(x, wants[w], 0, x.plan(0, BYTES, 0, 3, whats[w]), "what " + whats[w]);
        }
    }

    static void planWithoutADuchy() {
        Edges.refusedWithoutFaultUntold(STATE, x -> x.plan(0, BYTES, 0, 3, 0));
        Edges.refusedWithoutFaultUntold(STATE, x -> x.plan(0, BYTES, 0, 0, 0));
    }

    static void planOfFewerThanThereAre() {
        Edges.refusedWithoutFaultOfEach(OUTSIDE, (x, n) -> x.plan(0, BYTES, 0, n, 0), 0, 1, 2);
    }

    static void planOfMoreThanThereAre() {
        MustardFast x = Edges.busy();
        Due.row(x, 2, BYTES, 1, 2, 4, 1);
        Edges.unchanging(x, OUTSIDE, 0, y -> y.plan(2, BYTES, 0, 4, 0));
    }

    static void planOfNoCellsAtTheRowsEnd() {
        Edges.refusedWithoutFault(OUTSIDE, x -> x.plan(0, BYTES, 3, 0, 0));
    }

    static void planOfDaysThatAreNot() {
        for (int cell : new int[] {-1, 16, 32, 64, Integer.MIN_VALUE, Integer.MAX_VALUE}) {
            for (int a = 0; a < 3; a++) {
                MustardFast x = Edges.busy();
                Due.row(x, 2, INTS, 1, 2, 4);
                x.put(2, a, cell);
                Edges.unchanging(x, OUTSIDE, 0, y -> y.plan(2, INTS, 0, 3, 0));
            }
        }
    }

    static void planOfAllDaysIsOne() {
        MustardFast x = Edges.busy();
        Due.is(0, Due.plan(x, 3, 15, 15, 15), "the greatest set");
    }

    static void planCellsBesideItDoNotCount() {
        MustardFast x = Edges.busy();
        Due.row(x, 2, INTS, -1, 1, 2, 4, 64);
        Due.is(x, 12, 0, x.plan(2, INTS, 1, 3, 0), "wrong cells beside it");
    }

    static void planOlderEatersDoNotCount() {
        MustardFast x = Due.told("d5,99;e015;e015;e015;e015");
        Due.tell(x, "d5,99;e011");
        Due.row(x, 2, INTS, 2, 1, 1, 1);
        Due.is(1, x.plan(2, INTS, 0, 1, 0), "fines");
        Due.is(1, x.plan(2, INTS, 0, 1, 1), "first day");
        Due.is(1, x.plan(2, INTS, 0, 1, 2), "who is found");
        Due.is(0, x.plan(2, INTS, 0, 1, 3), "who eats less often");
        Due.is(0, x.plan(2, INTS, 0, 1, 10), "how many on day 0");
        Due.is(1, x.plan(2, INTS, 0, 1, 11), "how many on day 1");
        Due.is(x, OUTSIDE, 0, x.plan(2, INTS, 0, 4, 0), "as many as there were");
    }

    // ---- promise 11: of several the first

    static void planUnknownAheadOfAll() {
        Edges.refusedWithoutFault(UNKNOWN, x -> x.plan(4, 3, -1, -1, 4));
        Edges.refusedWithoutFaultUntold(UNKNOWN, x -> x.plan(4, BYTES, 0, 3, 0));
    }

    static void planOutsideAheadOfState() {
        Edges.refusedWithoutFaultUntold(OUTSIDE, x -> x.plan(0, 3, 0, 3, 0));
        Edges.refusedWithoutFaultUntold(OUTSIDE, x -> x.plan(0, BYTES, 0, 3, 4));
    }

    static void planOutsideAheadOfFaults() {
        Edges.refusedWithoutFault(OUTSIDE, x -> x.plan(2, 3, -1, -1, 0));
        Edges.refusedWithoutFault(OUTSIDE, x -> x.plan(2, BYTES, -1, -1, 9));
        Edges.refusedWithoutFault(OUTSIDE, x -> x.plan(0, INTS, -1, -1, 9));
    }

    static void planStateAheadOfFaults() {
        Edges.refusedWithoutFaultUntold(STATE, x -> x.plan(0, INTS, 0, 3, 0));
        Edges.refusedWithoutFaultUntold(STATE, x -> x.plan(2, INTS, 0, 3, 0));
        Edges.refusedWithoutFaultUntold(STATE, x -> x.plan(0, BYTES, 0, -1, 0));
        Edges.refusedWithoutFaultUntold(STATE, x -> x.plan(0, BYTES, -1, 3, 0));
    }

    static void planCastAheadOfSizeAndIndex() {
        Edges.faulted(Due.CAST, x -> x.plan(0, INTS, 0, -1, 0));
        Edges.faulted(Due.CAST, x -> x.plan(0, INTS, -1, 3, 0));
    }

    static void planNullAheadOfSizeAndIndex() {
        Edges.faulted(Due.NULL, x -> x.plan(2, INTS, 0, -1, 0));
        Edges.faulted(Due.NULL, x -> x.plan(2, INTS, -1, 3, 0));
    }

    static void planSizeAheadOfIndex() {
        Edges.faulted(Due.SIZE, x -> x.plan(0, BYTES, -1, -1, 0));
        Edges.faulted(Due.SIZE, x -> x.plan(0, BYTES, 4, -1, 0));
    }

    static void planFaultsAheadOfHowManyThereAre() {
        Edges.faulted(Due.CAST, x -> x.plan(0, INTS, 0, 2, 0));
        Edges.faulted(Due.NULL, x -> x.plan(2, INTS, 0, 2, 0));
        Edges.faulted(Due.INDEX, x -> x.plan(0, BYTES, 2, 2, 0));
    }

    static void planOutsideAheadOfNone() {
        Edges.refusedWithoutFault(OUTSIDE, x -> x.plan(0, BYTES, 0, 2, 15));
        Edges.refusedWithoutFault(OUTSIDE, x -> x.plan(3, INTS, 0, 3, 15));
    }
}
