/** Promises 8 to 11: fasts, yellow tongues, who is found, plans. */
public final class FoundTest {
    public static void main(String[] args) {
        fasts();
        yellow();
        found();
        plan();
        plansOfFewerThanThereWere();
        plansOfOtherLanes();
        refusalsOfPlan();
        Due.end();
    }

    private static void fasts() {
        Due.is(-3, new MustardFast().fasts(), "fasts without a duchy");
        MustardFast x = Due.told("d5,456789;e132");
        Due.is(0b111110, x.fasts(), "a look as sour as sour is a fast");
        x.sour(9);
        Due.is(0b100000, x.fasts(), "the sourest alone");
        x.sour(0);
        Due.is(0b111111, x.fasts(), "all");
        x.sour(9);
        x.pull(5, 8);
        Due.is(0, x.fasts(), "none");
    }

    private static void yellow() {
        MustardFast x = Due.told("d5,666666;e013;e213;s513;l513");
        Due.is(0b101001, x.yellow(0, 0b101001), "stay 0: the meal's day alone");
        Due.is(0b000111, x.yellow(1, 0b000001), "stay 2");
        Due.is(0b101111, x.yellow(1, 0b100011), "meals that overlap, and one at the end");
        Due.is(0b111110, x.yellow(2, 0b000010), "a sly one's 4");
        Due.is(0b001110, x.yellow(3, 0b000010), "a stranger's 2");
        Due.is(0, x.yellow(1, 0), "no meal");
        Due.is(63, x.yellow(1, 63), "all meals");
        Due.is(-1, x.yellow(4, 64), "nobody ahead of a wrong set");
        Due.is(-1, x.yellow(-1, 0), "eater -1");
        Due.is(-2, x.yellow(0, 64), "a seventh day");
        Due.is(-2, x.yellow(0, -1), "set -1");
        Due.is(-2, x.yellow(0, Integer.MIN_VALUE), "the least set");
        MustardFast y = Due.told(Due.VILLAGE);
        Due.is(8, y.yellow(0, 8), "the last of four days");
        Due.is(-2, y.yellow(0, 16), "a fifth day of four");
    }

    private static void found() {
        MustardFast x = Due.told(Due.VILLAGE);
        Due.is(5, x.found(0, 5, 0), "found on both fasts");
        Due.is(6, x.found(0, 5, 1), "two fasts, three spoons");
        Due.is(4, x.found(1, 2, 0), "found by yesterday's meal");
        Due.is(5, x.found(1, 2, 1), "five spoons");
        Due.is(8, x.found(2, 1, 1), "twice by one meal");
        Due.is(0, x.found(0, 8, 0), "not found");
        Due.is(0, x.found(0, 8, 1), "no fine");
        Due.is(-1, x.found(3, 99, 9), "nobody ahead of all");
        Due.is(-2, x.found(0, 16, 0), "a fifth day of four");
        Due.is(-2, x.found(0, -1, 0), "set -1");
        Due.is(-2, x.found(0, 0, 2), "what 2");
        Due.is(-2, x.found(0, 0, -1), "what -1");
        MustardFast most = Due.told("d0,000000;e593");
        Due.is(54, most.found(0, 1, 1), "the dearest meal");
    }

    private static void plan() {
        MustardFast x = Due.told(Due.VILLAGE);
        Due.is(3 + 5 + 4, Due.plan(x, 0, 1, 2, 4), "fines together");
        Due.is(0, Due.plan(x, 1, 1, 2, 4), "first day");
        Due.is(2, Due.plan(x, 1, 2, 2, 8), "first day is the second fast");
        Due.is(-9, Due.plan(x, 1, 8, 8, 8), "nobody is found on any day");
        Due.is(0, Due.plan(x, 0, 8, 8, 8), "nobody pays");
        Due.is(0, Due.plan(x, 2, 8, 8, 8), "nobody is found");
        Due.is(7, Due.plan(x, 2, 1, 2, 4), "all are found");
        Due.is(0b110, Due.plan(x, 2, 0, 15, 1), "two are found");
        Due.is(0b101, Due.plan(x, 3, 4, 3, 0), "two eat less often than they need");
        Due.is(0, Due.plan(x, 3, 3, 1, 15), "all eat often enough");
        int[] foundOn = {2, 0, 3, 0, -9, -9};
        for (int d = 0; d < 6; d++) {
            Due.is(foundOn[d], Due.plan(x, 10 + d, 1 + 4, 2, 1), "how many are found on " + d);
        }
        Due.is(0, x.fault(), "an answer NONE is no fault");
    }

    /** Neither the eaters of an older text nor the cells beside a plan may count. */
    private static void plansOfFewerThanThereWere() {
        MustardFast x = Due.told("d0,999999;e596;e596;e596;e596");
        Due.is(2, Due.tell(x, "d5,1999;e012;e021"), "two eaters behind four");
        Due.row(x, 2, Due.INTS, 15, 15, 1, 4, 15, 15);
        Due.is(2, x.plan(2, Due.INTS, 2, 2, 0), "fines together");
        Due.is(2, x.plan(2, Due.INTS, 2, 2, 1), "the first day");
        Due.is(2, x.plan(2, Due.INTS, 2, 2, 2), "who is found");
        Due.is(1, x.plan(2, Due.INTS, 2, 2, 3), "who eats too little");
        Due.is(1, x.plan(2, Due.INTS, 2, 2, 12), "how many on day 2");
        Due.is(0, x.plan(2, Due.INTS, 2, 2, 13), "how many on day 3");
        Due.row(x, 2, Due.INTS, 1, 1, 0, 0, 0);
        Due.is(0, x.plan(2, Due.INTS, 1, 2, 2), "the cells of an older eater's place are 0");
        Due.is(3, x.plan(2, Due.INTS, 1, 2, 3), "nor does an older eater need");
    }

    private static void plansOfOtherLanes() {
        for (int lane = 0; lane <= 2; lane++) {
            MustardFast x = Due.told(Due.VILLAGE);
            Due.row(x, lane, lane, 99, 1, 2, 4, -1);
            Due.is(x, 12, 0, x.plan(lane, lane, 1, 3, 0), "a plan from 1 on in lane " + lane);
            Due.is(x, -2, 0, x.plan(lane, lane, 0, 3, 0), "a cell with a fifth day");
            Due.is(x, -2, 0, x.plan(lane, lane, 2, 3, 0), "a cell -1");
        }
        MustardFast x = Due.told(Due.VILLAGE);
        Due.row(x, 0, Due.BYTES, 256 + 1, 512 + 2, 1024 + 4);
        Due.is(12, x.plan(0, Due.BYTES, 0, 3, 0), "cells are what is left in the lane");
        Due.row(x, 0, Due.INTS, 256 + 1, 2, 4);
        Due.is(-2, x.plan(0, Due.INTS, 0, 3, 0), "an int is taken whole");
    }

    private static void refusalsOfPlan() {
        MustardFast x = new MustardFast();
        Due.row(x, 1, Due.BYTES, 1, 2, 4, 64);
        x.put(1, 9, 0);
        Due.is(x, -1, 0, x.plan(-1, 3, -1, -1, 4), "sheet -1");
        Due.is(x, -1, 0, x.plan(4, 3, -1, -1, 4), "sheet 4");
        Due.is(x, -2, 0, x.plan(1, 3, -1, -1, 0), "lane 3");
        Due.is(x, -2, 0, x.plan(1, -1, -1, -1, 0), "lane -1");
        for (int what : new int[] {-1, 4, 9, 16, Integer.MAX_VALUE, Integer.MIN_VALUE}) {
            Due.is(x, -2, 0, x.plan(1, Due.BYTES, -1, -1, what), "what " + what);
        }
        Due.is(x, -3, 0, x.plan(1, Due.INTS, -1, -1, 15), "no duchy");
        Due.tell(x, Due.VILLAGE);
        Due.is(x, -12, 2, x.plan(1, Due.INTS, -1, -1, 0), "another lane");
        Due.is(x, -11, 1, x.plan(0, Due.INTS, -1, -1, 0), "nothing");
        Due.is(x, -14, 4, x.plan(1, Due.BYTES, -1, -1, 0), "length -1");
        Due.is(x, -13, 3, x.plan(1, Due.BYTES, -1, 3, 0), "from -1 on");
        Due.is(x, -13, 3, x.plan(1, Due.BYTES, 5, 0, 0), "no cells beyond the row");
        Due.is(x, -13, 3, x.plan(1, Due.BYTES, 2, 3, 0), "one cell too many");
        Due.is(x, -13, 3, x.plan(1, Due.BYTES, 1, Integer.MAX_VALUE, 0), "far too many");
        Due.is(x, -2, 0, x.plan(1, Due.BYTES, 4, 0, 0), "no cells at the row's end are too few");
        Due.is(x, -2, 0, x.plan(1, Due.BYTES, 0, 2, 0), "two cells for three");
        Due.is(x, -2, 0, x.plan(1, Due.BYTES, 0, 4, 0), "four cells for three");
        Due.is(x, -2, 0, x.plan(1, Due.BYTES, 1, 3, 15), "a cell with a seventh day, ahead of NONE");
        Due.is(x, -9, 0, x.plan(1, Due.BYTES, 0, 3, 15), "no sixth day");
        Due.is(x, 12, 0, x.plan(1, Due.BYTES, 0, 3, 0), "then a plan");
    }
}
