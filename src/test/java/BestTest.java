/** Promises 12 to 14: when one should eat, what the village pays, where the cook should smile. */
public final class BestTest {
    public static void main(String[] args) {
        best();
        bestOfAlikeFines();
        village();
        smile();
        smileOfAlikeDays();
        Due.end();
    }

    private static void best() {
        MustardFast x = Due.told(Due.VILLAGE);
        Due.is(6, x.best(0, 0), "two meals, found once");
        Due.is(3, x.best(0, 1), "its fine");
        Due.is(8, x.best(1, 0), "the day behind the last fast");
        Due.is(0, x.best(1, 1), "no fine");
        x.crave(0, 4);
        Due.is(15, x.best(0, 0), "need is all days");
        Due.is(6, x.best(0, 1), "its fine");
        x.crave(0, 5);
        Due.is(-9, x.best(0, 0), "need is more than there are days");
        Due.is(-9, x.best(0, 1), "no fine of none");
        x.crave(0, 0);
        Due.is(0, x.best(0, 0), "no need");
        Due.is(-1, x.best(3, 2), "nobody ahead of what");
        Due.is(-1, x.best(-1, 0), "eater -1");
        Due.is(-2, x.best(0, 2), "what 2");
        Due.is(-2, x.best(0, -1), "what -1");
        x.crave(0, 5);
        Due.is(-2, x.best(0, 2), "what 2 ahead of NONE");
        Due.is(-1, new MustardFast().best(0, 0), "best without a duchy");
    }

    private static void bestOfAlikeFines() {
        Due.is(2, Due.told("d5,911911;e011").best(0, 0), "of alike fines the least set");
        Due.is(6, Due.told("d5,911911;e012").best(0, 0), "of two meals the least set");
        Due.is(0, Due.told("d9,111111;e510").best(0, 0), "of alike fines the fewest days");
        Due.is(1, Due.told("d5,111119;e511").best(0, 0), "a long stay meets the fast from any day on");
        Due.is(32, Due.told("d5,999999;e511").best(0, 0), "a meal on the last day is found once");
        Due.is(13, Due.told("d5,9911;e013").best(0, 0), "of {0, 2, 3} and {1, 2, 3} the least");
        Due.is(1, Due.told("d5,9911;e013").best(0, 1), "found once in three meals");
        Due.is(3, Due.told("d5,1199;e112").best(0, 0), "two meals whose yellow days overlap");
        Due.is(12, Due.told("d5,9991;s392").best(0, 0), "not the least set, but the least fine");
    }

    private static void village() {
        Due.is(-3, new MustardFast().village(), "village without a duchy");
        MustardFast x = Due.told(Due.VILLAGE);
        Due.is(3, x.village(), "the best of all together");
        x.sour(0);
        Due.is(6 + 5 + 4, x.village(), "all days are fasts");
        x.crave(1, 5);
        Due.is(-9, x.village(), "one has no best");
        x.crave(1, 4);
        Due.is(6 + 20 + 4, x.village(), "all days are needed");
        x = Due.told("d0,9999;e014;e014;e014;e014");
        Due.tell(x, "d0,9999;e021;e031");
        Due.is(5, x.village(), "eaters of an older text pay nothing");
        Due.tell(x, "d0,99;e021;e031");
        Due.is(5, x.village(), "nor want they what they can't have");
        Due.is(216, Due.told("d9,999999;l596;l596;l596;l596").village(), "the dearest village");
    }

    private static void smile() {
        MustardFast none = new MustardFast();
        Due.is(-2, none.smile(2), "what 2 ahead of no duchy");
        Due.is(-2, none.smile(-1), "what -1");
        Due.is(-3, none.smile(1), "smile without a duchy");
        MustardFast x = Due.told(Due.VILLAGE);
        Due.is(0, x.smile(0), "the first fast");
        Due.is(0, x.smile(1), "then all eat for nothing");
        Due.is(-2, x.smile(2), "what 2");
        Due.is(6, x.look(0), "the cook does not smile yet");
        x.sour(0);
        Due.is(3, x.smile(0), "the last day frees all");
        Due.is(3, x.smile(1), "but for the second meal of one");
        x.crave(0, 5);
        Due.is(-9, x.smile(0), "the village has none");
        Due.is(-9, x.smile(1), "the village pays none");
        MustardFast y = Due.told("d9,118;e011");
        Due.is(-9, y.smile(0), "no fast");
        Due.is(-9, y.smile(1), "no fast to smile on");
        y.sour(8);
        Due.is(2, y.smile(0), "one fast");
        Due.is(0, y.smile(1), "nobody pays without it");
    }

    private static void smileOfAlikeDays() {
        MustardFast x = Due.told("d5,199199;e010");
        Due.is(1, x.smile(0), "of alike fasts the least, not the least day");
        MustardFast y = Due.told("d5,9999;e016;e011");
        Due.is(-9, y.smile(0), "one has no best");
        MustardFast z = Due.told("d5,9991;e012;s392");
        Due.is(10, z.village(), "both are found once");
        Due.is(2, z.smile(0), "the one ahead of the free day");
        Due.is(0, z.smile(1), "both then eat on 2 and 3");
    }
}
