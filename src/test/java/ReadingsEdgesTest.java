/** Boundary cases of promises 15 to 20, each by itself: readings, what follows of them, odds. */
public final class ReadingsEdgesTest {
    private static final int UNKNOWN = -1, OUTSIDE = -2, STATE = -3, FULL = -4;
    private static final long LOST = Long.MIN_VALUE;

    public static void main(String[] args) throws ReflectiveOperationException {
        Edges.all(ReadingsEdgesTest.class);
    }

    /** With as many readings that are so. */
    private static MustardFast withReadings(int count) {
        MustardFast x = Due.told(Due.VILLAGE);
        for (int r = 0; r < count; r++) {
            Due.is(r, x.reading(0, 1, 0, true), "reading " + r);
        }
        return x;
    }

    // ---- promise 15: reading

    static void firstReadingIsNumber0() {
        Due.is(0, Due.told(Due.VILLAGE).reading(0, 1, 0, true), "its number");
    }

    static void eighthReadingIsTheLast() {
        Due.is(7, withReadings(7).reading(0, 1, 0, true), "its number");
    }

    static void ninthReadingIsFull() {
        Edges.unchanging(withReadings(8), FULL, Edges.STANDING, x -> x.reading(0, 1, 0, true));
        Edges.unchanging(withReadings(8), FULL, Edges.STANDING, x -> x.reading(2, 15, 3, false));
    }

    static void fullNoMoreOnceOneIsTakenBack() {
        MustardFast x = withReadings(8);
        Due.is(7, x.back(1), "one back");
        Due.is(7, x.reading(0, 1, 0, true), "one more");
        Due.is(FULL, x.reading(0, 1, 0, true), "no more");
    }

    static void fullNoMoreBehindAText() {
        MustardFast x = withReadings(8);
        Due.tell(x, Due.VILLAGE);
        Due.is(0, x.reading(0, 1, 0, true), "the first anew");
    }

    static void readingOfNoMealAndOfAll() {
        MustardFast x = Due.told(Due.VILLAGE);
        Due.is(0, x.reading(0, 0, 0, false), "no meal");
        Due.is(1, x.reading(0, 15, 0, true), "all meals");
        Due.is(63, x.stays(0), "both are so");
    }

    static void readingOfTheLastEaterAndDay() {
        MustardFast x = Due.told(Due.VILLAGE);
        Due.is(0, x.reading(2, 8, 3, false), "the last ones");
        Due.is(0b1111100000, x.sours(), "not found by a look of 4");
    }

    static void readingThatIsNotSoIsTaken() {
        MustardFast x = Due.told(Due.VILLAGE);
        Due.is(0, x.reading(0, 1, 0, false), "found, but read as not");
        Due.is(1, x.reading(0, 1, 0, true), "and the other way");
        Due.is(0, x.stays(0) | x.kinds(0) | x.sours(), "nothing is so");
    }

    static void readingChangesNothingElse() {
        MustardFast x = Due.told(Due.VILLAGE);
        x.reading(0, 15, 1, true);
        Due.is(5, x.fasts(), "fasts");
        Due.is(5, x.many(2), "sour");
        Due.is(1, x.ofEater(0, 1), "stay");
        Due.is(0, x.ofEater(0, 0), "kind");
        Due.is(0, x.trace(), "trace");
    }

    static void readingOfEatersThatThereAreNot() {
        Edges.refusedOfEach(UNKNOWN, (x, a) -> x.reading(a, 1, 0, true), -1, 3, 4);
        Edges.refusedOfEach(UNKNOWN, (x, a) -> x.reading(a, 1, 0, true), Edges.FAR);
    }

    static void readingOfSetsThatThereAreNot() {
        Edges.refusedOfEach(OUTSIDE, (x, set) -> x.reading(0, set, 0, true), -1, 16, 64);
        Edges.refusedOfEach(OUTSIDE, (x, set) -> x.reading(0, set, 0, true), Edges.FAR);
    }

    static void readingOfDaysThatThereAreNot() {
        Edges.refusedOfEach(UNKNOWN, (x, d) -> x.reading(0, 1, d, true), -1, 4, 6);
        Edges.refusedOfEach(UNKNOWN, (x, d) -> x.reading(0, 1, d, true), Edges.FAR);
    }

    static void readingEaterAheadOfSet() {
        Edges.refused(UNKNOWN, x -> x.reading(3, 16, 0, true));
    }

    static void readingSetAheadOfDay() {
        Edges.refused(OUTSIDE, x -> x.reading(0, 16, 4, true));
    }

    static void readingAllAheadOfFull() {
        Edges.unchanging(withReadings(8), UNKNOWN, Edges.STANDING, x -> x.reading(3, 1, 0, true));
        Edges.unchanging(withReadings(8), OUTSIDE, Edges.STANDING, x -> x.reading(0, 16, 0, true));
        Edges.unchanging(withReadings(8), UNKNOWN, Edges.STANDING, x -> x.reading(0, 1, 4, true));
    }

    static void readingWithoutADuchy() {
        Edges.refusedUntold(UNKNOWN, x -> x.reading(0, 0, 0, true));
    }

    // ---- promise 16: back

    static void backOfNone() {
        Edges.refused(2, x -> x.back(0));
        Edges.refusedUntold(0, x -> x.back(0));
    }

    static void backOfAll() {
        Due.is(0, withReadings(1).back(1), "of one");
        Due.is(0, withReadings(8).back(8), "of eight");
    }

    static void backOfMoreThanThereAre() {
        Edges.refusedOfEach(OUTSIDE, (x, k) -> x.back(k), 3, 8);
        Edges.refusedUntold(OUTSIDE, x -> x.back(1));
        Edges.unchanging(withReadings(8), OUTSIDE, Edges.STANDING, x -> x.back(9));
    }

    static void backOfLessThanNone() {
        Edges.refusedOfEach(OUTSIDE, (x, k) -> x.back(k), -1, -8);
        Edges.refusedOfEach(OUTSIDE, (x, k) -> x.back(k), Edges.FAR);
    }

    static void backTakesTheLastOnes() {
        MustardFast x = Due.told("d5,999999;e210");
        x.reading(0, 1, 2, true);
        x.reading(0, 1, 3, true);
        x.reading(0, 1, 4, true);
        Due.is(0b110000, x.stays(0), "by three");
        Due.is(1, x.back(2), "two back");
        Due.is(0b111100, x.stays(0), "by the first");
    }

    static void backLeavesNoneOfTheOldBehindANewOne() {
        MustardFast x = Due.told("d5,999999;e210");
        x.reading(0, 1, 5, true);
        x.back(1);
        Due.is(0, x.reading(0, 1, 1, false), "the number that is free");
        Due.is(1, x.stays(0), "by the new one alone");
    }

    // ---- promise 17: stays

    static void staysWithoutReadings() {
        for (int a = 0; a < 3; a++) {
            Due.is(63, Due.told(Due.VILLAGE).stays(a), "eater " + a);
        }
    }

    static void staysOfAnEaterByEachDayBehind() {
        stays('e', true, 63, 62, 60, 56, 48, 32);
        stays('e', false, 0, 1, 3, 7, 15, 31);
    }

    static void staysOfASlyOneOf0And1AreAlike() {
        stays('s', true, 63, 60, 56, 48, 32, 0);
        stays('s', false, 0, 3, 7, 15, 31, 63);
    }

    static void staysOfAStrangerWhoseHalfIsCut() {
        stays('l', true, 63, 56, 32, 0, 0, 0);
        stays('l', false, 0, 7, 31, 63, 63, 63);
    }

    private static void stays(char kind, boolean was, int... want) {
        for (int behind = 0; behind < 6; behind++) {
            MustardFast x = Due.told("d5,999999;" + kind + "010");
            x.reading(0, 1, behind, was);
            Due.is(want[behind], x.stays(0), kind + " " + behind + " days behind the meal, " + was);
        }
    }

    static void staysOnADayThatIsNoFast() {
        MustardFast x = Due.told("d5,4;e110");
        x.reading(0, 1, 0, false);
        Due.is(63, x.stays(0), "not found");
        x.reading(0, 1, 0, true);
        Due.is(0, x.stays(0), "found");
    }

    static void staysOfOnesOwnStandsAside() {
        MustardFast x = Due.told("d5,999999;e010");
        x.reading(0, 1, 5, true);
        Due.is(32, x.stays(0), "5, though it is 0");
        Due.is(0, x.ofEater(0, 1), "it stays 0");
    }

    static void staysAsksTheReadingsOfOthersAsTheyAre() {
        MustardFast x = Due.told("d5,999999;e210;e210");
        x.reading(1, 1, 2, true);
        Due.is(63, x.stays(0), "another's is so");
        x.reading(1, 1, 3, true);
        Due.is(0, x.stays(0), "another's is not so");
        Due.is(0b111000, x.stays(1), "the other one's own");
    }

    static void staysAsLooksAndSourAreWhenItIsAsked() {
        MustardFast x = Due.told("d5,9999;e110");
        x.reading(0, 1, 2, false);
        Due.is(3, x.stays(0), "a fast when it was told");
        x.pull(2, 4);
        Due.is(63, x.stays(0), "none by its look");
        x.sour(4);
        Due.is(3, x.stays(0), "one by sour");
    }

    static void staysOfEatersThatThereAreNot() {
        Edges.refusedOfEach(UNKNOWN, (x, a) -> x.stays(a), -1, 3, 4);
        Edges.refusedOfEach(UNKNOWN, (x, a) -> x.stays(a), Edges.FAR);
        Edges.refusedUntold(UNKNOWN, x -> x.stays(0));
    }

    // ---- promise 18: kinds

    static void kindsWithoutReadings() {
        for (int a = 0; a < 3; a++) {
            Due.is(7, Due.told(Due.VILLAGE).kinds(a), "eater " + a);
        }
    }

    static void kindsOfStay5ByEachDayBehind() {
        kinds(5, true, 7, 7, 7, 3, 3, 1);
        kinds(5, false, 0, 0, 0, 4, 4, 6);
    }

    static void kindsOfStay0AreAlike() {
        kinds(0, true, 7, 0, 0, 0, 0, 0);
        kinds(0, false, 0, 7, 7, 7, 7, 7);
    }

    static void kindsOfStay1() {
        kinds(1, true, 7, 1, 0, 0, 0, 0);
        kinds(1, false, 0, 6, 7, 7, 7, 7);
    }

    static void kindsOfStay3() {
        kinds(3, true, 7, 7, 3, 1, 0, 0);
        kinds(3, false, 0, 0, 4, 6, 7, 7);
    }

    private static void kinds(int stay, boolean was, int... want) {
        for (int behind = 0; behind < 6; behind++) {
            for (char kind : new char[] {'e', 's', 'l'}) {
                MustardFast x = Due.told("d5,999999;" + kind + stay + "10");
                x.reading(0, 1, behind, was);
                Due.is(want[behind], x.kinds(0), kind + ", " + behind + " days behind the meal, " + was);
            }
        }
    }

    static void kindsThatNoneIs() {
        MustardFast x = Due.told("d5,999999;e510");
        x.reading(0, 1, 5, true);
        x.reading(0, 1, 3, false);
        Due.is(0, x.kinds(0), "two readings that can't both be so");
    }

    static void kindsAsksTheReadingsOfOthersAsTheyAre() {
        MustardFast x = Due.told("d5,999999;e510;e010");
        x.reading(1, 1, 1, false);
        Due.is(7, x.kinds(0), "another's is so");
        x.reading(1, 1, 1, true);
        Due.is(0, x.kinds(0), "another's is not so");
    }

    static void kindsOfEatersThatThereAreNot() {
        Edges.refusedOfEach(UNKNOWN, (x, a) -> x.kinds(a), -1, 3, 4);
        Edges.refusedOfEach(UNKNOWN, (x, a) -> x.kinds(a), Edges.FAR);
        Edges.refusedUntold(UNKNOWN, x -> x.kinds(0));
    }

    // ---- promise 19: sours

    static void soursWithoutReadings() {
        Due.is(1023, Due.told(Due.VILLAGE).sours(), "0 .. 9");
    }

    static void soursByEachLook() {
        for (int look = 0; look <= 9; look++) {
            int upTo = (1 << look + 1) - 1;
            Due.is(upTo, soursBy(look, 1, true), "found by a look of " + look);
            Due.is(1023 - upTo, soursBy(look, 1, false), "not found by a look of " + look);
        }
    }

    static void soursWhereNoTongueIsYellow() {
        Due.is(1023, soursBy(9, 0, false), "not found");
        Due.is(0, soursBy(9, 0, true), "found");
    }

    private static int soursBy(int look, int set, boolean was) {
        MustardFast x = Due.told("d5," + look + ";e110");
        x.reading(0, set, 0, was);
        return x.sours();
    }

    static void soursBetweenTwoLooks() {
        MustardFast x = Due.told("d0,47;e110");
        x.reading(0, 3, 0, false);
        x.reading(0, 3, 1, true);
        Due.is(0b0011100000, x.sours(), "5, 6, 7");
    }

    static void soursAsksAllEatersAsTheyAre() {
        MustardFast x = Due.told("d5,999999;e210;s210");
        x.reading(0, 1, 2, true);
        Due.is(1023, x.sours(), "the first one's");
        x.reading(1, 1, 2, false);
        Due.is(1023, x.sours(), "the second one's");
        x.reading(1, 1, 1, true);
        x.reading(1, 1, 2, true);
        Due.is(0, x.sours(), "the second one's, not so");
    }

    static void soursByLooksAsTheyAreWhenItIsAsked() {
        MustardFast x = Due.told("d5,6;e110");
        x.reading(0, 1, 0, true);
        Due.is(127, x.sours(), "6");
        x.pull(0, 0);
        Due.is(1, x.sours(), "0");
        x.sour(9);
        Due.is(1, x.sours(), "sour stands aside");
    }

    static void soursWithoutADuchy() {
        Edges.refusedUntold(STATE, x -> x.sours());
    }

    // ---- promise 20: odds

    static void oddsOfNoMeal() {
        odds("d5,999999;e510", 0, 1);
    }

    static void oddsOfOneYellowDay() {
        odds("d5,999999;e010", 8, 2);
        odds("d5,9;e510", 1, 2);
        odds("d5,999999;e510", 32, 2);
    }

    static void oddsOfAllDaysYellow() {
        odds("d5,999999;e510", 1, 64);
        odds("d5,999999;e010", 63, 64);
    }

    static void oddsOfTongues() {
        odds("d5,999999;s510", 1, 32);
        odds("d5,999999;l510", 1, 8);
        odds("d5,999999;s010", 1, 2);
    }

    static void oddsHaveNothingToDoWithLooksAndSour() {
        odds("d9,000000;e110", 1, 4);
        odds("d0,000000;e110", 1, 4);
    }

    static void oddsHaveNothingToDoWithReadings() {
        MustardFast x = Due.told("d5,999999;e110");
        x.reading(0, 1, 0, true);
        x.reading(0, 1, 0, false);
        Due.is(4, x.odds(0, 1, 1), "lower number");
    }

    private static void odds(String text, int set, int lower) {
        MustardFast x = Due.told(text);
        Due.is(1, x.odds(0, set, 0), "upper number of " + text);
        Due.is(lower, x.odds(0, set, 1), "lower number of " + text);
    }

    static void oddsOfEatersThatThereAreNot() {
        Edges.refusedOfEach(LOST, (x, a) -> x.odds(a, 1, 0), -1, 3, 4);
        Edges.refusedOfEach(LOST, (x, a) -> x.odds(a, 1, 0), Edges.FAR);
    }

    static void oddsOfSetsThatThereAreNot() {
        Edges.refusedOfEach(LOST, (x, set) -> x.odds(0, set, 0), -1, 16, 64);
        Edges.refusedOfEach(LOST, (x, set) -> x.odds(0, set, 1), Edges.FAR);
    }

    static void oddsOfNumbersThatThereAreNot() {
        Edges.refusedOfEach(LOST, (x, which) -> x.odds(0, 1, which), -1, 2);
        Edges.refusedOfEach(LOST, (x, which) -> x.odds(0, 1, which), Edges.FAR);
    }

    static void oddsWithoutADuchy() {
        Edges.refusedUntold(LOST, x -> x.odds(0, 0, 0));
    }
}
