/** Boundary cases of promises 12 to 14, each by itself: when one should eat, the village, the smile. */
public final class BestEdgesTest {
    private static final int UNKNOWN = -1, OUTSIDE = -2, STATE = -3, NONE = -9;

    public static void main(String[] args) throws ReflectiveOperationException {
        Edges.all(BestEdgesTest.class);
    }

    private static void best(String text, int set, int fine) {
        MustardFast x = Due.told(text);
        Due.is(set, x.best(0, 0), "best of " + text);
        Due.is(fine, x.best(0, 1), "its fine");
    }

    private static void smile(String text, int day, int village) {
        MustardFast x = Due.told(text);
        Due.is(day, x.smile(0), "smile of " + text);
        Due.is(village, x.smile(1), "village then");
    }

    // ---- promise 12: best

    static void bestOfNoNeedIsNoDay() {
        best("d0,999999;e590", 0, 0);
    }

    static void bestOfNeedOfAllDays() {
        best("d5,9191;e024", 15, 4);
        best("d5,9;e021", 1, 2);
        best("d5,919191;e026", 63, 6);
    }

    static void bestOfNeedOfOneMoreThanThereAreDaysIsNone() {
        best("d5,9;e022", NONE, NONE);
        best("d5,91919;e026", NONE, NONE);
    }

    static void bestOfNeedOfOneLessThanAllDays() {
        best("d5,9191;e023", 11, 2);
    }

    static void bestHasTheLeastFineNotTheLeastSet() {
        best("d5,9991;e011", 8, 0);
        best("d5,9991;e511", 8, 0);
    }

    static void bestOfAlikeFinesHasTheFewestDays() {
        best("d9,111111;e511", 1, 0);
        best("d9,111111;e513", 7, 0);
    }

    static void bestOfAlikeCountsIsTheLeastSet() {
        best("d5,999999;e011", 1, 1);
        best("d5,911119;e012", 6, 0);
    }

    static void bestMeetsNoFastBehindTheLast() {
        best("d5,999991;e591", 32, 0);
    }

    static void bestOfOneMealOnTheLastDayIsFoundOnce() {
        best("d5,999999;e591", 32, 9);
    }

    static void bestLastsAsItsKindDoes() {
        best("d5,911911;s211", 2, 0);
        best("d5,911911;e211", 16, 0);
        best("d5,911191;e211", 2, 0);
        best("d5,911191;e311", 32, 0);
        best("d5,911191;l511", 2, 0);
    }

    static void bestDearestFine() {
        best("d0,000000;e596", 63, 54);
    }

    static void bestWithoutFasts() {
        best("d9,8888;e011", 1, 0);
    }

    static void bestFollowsPullSourAndCrave() {
        MustardFast x = Due.told("d5,91;e011");
        Due.is(2, x.best(0, 0), "as told");
        x.pull(1, 9);
        Due.is(1, x.best(0, 0), "the second day is a fast, too");
        x.pull(0, 8);
        x.sour(9);
        Due.is(1, x.best(0, 0), "the first is none by sour 9");
        Due.is(0, x.best(0, 1), "its fine");
        x.crave(0, 2);
        Due.is(3, x.best(0, 0), "two are needed");
    }

    static void bestHasNothingToDoWithReadings() {
        MustardFast x = Due.told("d5,91;e011");
        x.reading(0, 2, 1, true);
        Due.is(2, x.best(0, 0), "a reading that is not so");
    }

    static void bestChangesNothing() {
        Edges.refused(6, x -> x.best(0, 0));
        Edges.refused(3, x -> x.best(0, 1));
    }

    static void bestAskedWhatIsNotTold() {
        Edges.refusedOfEach(OUTSIDE, (x, what) -> x.best(0, what), -1, 2);
        Edges.refusedOfEach(OUTSIDE, (x, what) -> x.best(0, what), Edges.FAR);
    }

    static void bestOutsideAheadOfNone() {
        MustardFast x = Due.told("d5,9;e022");
        Due.is(OUTSIDE, x.best(0, 2), "what 2");
    }

    static void bestOfEatersThatThereAreNot() {
        Edges.refusedOfEach(UNKNOWN, (x, a) -> x.best(a, 0), -1, 3, 4);
        Edges.refusedOfEach(UNKNOWN, (x, a) -> x.best(a, 0), Edges.FAR);
    }

    static void bestUnknownAheadOfOutside() {
        Edges.refused(UNKNOWN, x -> x.best(3, 2));
    }

    static void bestWithoutADuchy() {
        Edges.refusedUntold(UNKNOWN, x -> x.best(0, 0));
    }

    // ---- promise 13: village

    static void villageOfOneEater() {
        Due.is(6, Due.told("d5,9191;e034").village(), "twice three spoons");
    }

    static void villageOfFourEaters() {
        Due.is(1 + 2 + 3 + 4, Due.told("d5,9;e011;e021;e031;e041").village(), "each once");
    }

    static void villageOfNoNeed() {
        Due.is(0, Due.told("d0,999999;e590;s590").village(), "nobody eats");
    }

    static void villageWithoutFasts() {
        Due.is(0, Due.told("d9,888888;e596;s596").village(), "nobody is found");
    }

    static void villageDearest() {
        Due.is(216, Due.told("d0,000000;e596;s596;l596;e596").village(), "four of 54 spoons");
    }

    static void villageIsNoneIfTheFirstHasNone() {
        Due.is(NONE, Due.told("d5,9;e012;e011").village(), "the first");
    }

    static void villageIsNoneIfTheLastHasNone() {
        Due.is(NONE, Due.told("d5,9;e011;e011;e011;e012").village(), "the last");
    }

    static void villageIsNoneEvenWithoutFasts() {
        Due.is(NONE, Due.told("d9,1;e012").village(), "no fast, but no best");
    }

    static void villageBecomesNoneByCraving() {
        MustardFast x = Edges.busy();
        Due.is(3, x.village(), "as told");
        x.crave(2, 5);
        Due.is(NONE, x.village(), "five of four days");
        x.crave(2, 4);
        Due.is(3 + 8, x.village(), "four of four days");
    }

    static void villageOfOlderEatersDoesNotCount() {
        MustardFast x = Due.told("d5,9;e012;e012;e012;e012");
        Due.tell(x, "d5,9;e021");
        Due.is(2, x.village(), "one eater behind four that have none");
    }

    static void villageWithoutADuchy() {
        Edges.refusedUntold(STATE, x -> x.village());
    }

    static void villageChangesNothing() {
        Edges.refused(3, x -> x.village());
    }

    // ---- promise 14: smile

    static void smileWithoutFasts() {
        smile("d9,888888;e011", NONE, NONE);
    }

    static void smileWhereTheVillageIsNone() {
        smile("d5,99;e013", NONE, NONE);
        smile("d5,99;e011;e013", NONE, NONE);
    }

    static void smileOnTheOnlyFast() {
        smile("d5,111119;e016", 5, 0);
        smile("d5,9;e011", 0, 0);
    }

    static void smileOfAlikeFastsIsTheLeast() {
        smile("d5,9999;e014", 0, 3);
        smile("d5,199199;e016", 1, 3);
    }

    static void smileIsNotOnALaterFastThatFreesLess() {
        smile("d5,1999;e111", 1, 0);
    }

    static void smileIsAFastNotTheLeastDay() {
        smile("d5,1191;e010", 2, 0);
    }

    static void smileWhereNobodyPaysAnyhow() {
        smile("d5,91;e011", 0, 0);
    }

    static void smileWithAllChoosingAnew() {
        smile("d5,9999;e011;e111", 3, 0);
    }

    static void smileFreesAllEatersTogether() {
        smile("d5,99;e012;s592", 0, 10);
    }

    static void smileOnTheLastDay() {
        smile("d5,999999;e511", 5, 0);
        smile("d5,199;e511;e591", 2, 0);
    }

    static void smileIsNotYetSmiled() {
        Edges.refused(0, x -> x.smile(0));
        Edges.refused(0, x -> x.smile(1));
        MustardFast x = Edges.busy();
        x.smile(0);
        Due.is(6, x.look(0), "the look");
        Due.is(5, x.fasts(), "the fasts");
        Due.is(3, x.village(), "the village");
    }

    static void smileAskedWhatIsNotTold() {
        Edges.refusedOfEach(OUTSIDE, (x, what) -> x.smile(what), -1, 2);
        Edges.refusedOfEach(OUTSIDE, (x, what) -> x.smile(what), Edges.FAR);
    }

    static void smileOutsideAheadOfState() {
        Edges.refusedUntold(OUTSIDE, x -> x.smile(-1));
        Edges.refusedUntold(OUTSIDE, x -> x.smile(2));
    }

    static void smileOutsideAheadOfNone() {
        Due.is(OUTSIDE, Due.told("d9,1;e011").smile(2), "no fast");
    }

    static void smileWithoutADuchy() {
        Edges.refusedUntold(STATE, x -> x.smile(0));
        Edges.refusedUntold(STATE, x -> x.smile(1));
    }
}
