/** Boundary cases of promises 26 to 29, each by itself: telling, sniffing, kinds as others, the trace. */
public final class PartsEdgesTest {
    private static final int UNKNOWN = -1, OUTSIDE = -2;

    public static void main(String[] args) throws ReflectiveOperationException {
        Edges.all(PartsEdgesTest.class);
    }

    private static void telling(String text, int want, int trace) {
        MustardFast x = Due.told(text);
        Due.is(want, x.tell(0), "telling of " + text);
        Due.is(trace, x.trace(), "its trace");
    }

    // ---- promise 26: tell

    static void tellOfAnEater() {
        telling("d5,6;e110", 1, 1);
        telling("d5,6;e190", 9, 1);
    }

    static void tellOfASlyOne() {
        telling("d5,6;s110", 101, 2 * 31 + 1);
        telling("d5,6;s190", 109, 2 * 31 + 1);
    }

    static void tellOfAStrangerLeavesTheSlyOnesOutOnce() {
        telling("d5,6;l110", 101 + 1, ((3 * 31 + 2) * 31 + 1) * 31 + 1);
        telling("d5,6;l190", 109 + 9, ((3 * 31 + 2) * 31 + 1) * 31 + 1);
    }

    static void tellOfTheLastEater() {
        Due.is(107, Due.told("d5,6;e110;e120;e130;s170").tell(3), "the fourth");
    }

    static void tellOfEatersThatThereAreNot() {
        Edges.refusedOfEach(UNKNOWN, (x, a) -> x.tell(a), -1, 3, 4);
        Edges.refusedOfEach(UNKNOWN, (x, a) -> x.tell(a), Edges.FAR);
        Edges.refusedUntold(UNKNOWN, x -> x.tell(0));
    }

    static void tellChangesTheTraceAlone() {
        MustardFast x = Due.told("d5,6;l132");
        x.tell(0);
        Due.is(2, x.ofEater(0, 0), "kind");
        Due.is(3, x.ofEater(0, 2), "spoons");
        Due.is(0, x.fault(), "fault");
    }

    // ---- promise 27: sniff

    static void sniffAtAnEaterTellsHisNumber() {
        MustardFast x = Due.told("d5,6;e110;e110;e110;e110");
        Due.is(0, x.sniff(0), "the first");
        Due.is(4, x.trace(), "its trace");
        Due.is(3, x.sniff(3), "the last");
        Due.is(4 * 31 + 4, x.trace(), "both traces");
    }

    static void sniffAtASlyOneTellsHisNumberToo() {
        MustardFast x = Due.told("d5,6;e110;s110");
        Due.is(1, x.sniff(1), "the sly one");
        Due.is(4, x.trace(), "the lent body's trace");
    }

    static void sniffAtAStrangerTellsForty() {
        MustardFast x = Due.told("d5,6;l110;l110");
        Due.is(40, x.sniff(0), "the first");
        Due.is(5, x.trace(), "its own body's trace, and not the lent one's");
        Due.is(40, x.sniff(1), "the last");
        Due.is(5 * 31 + 5, x.trace(), "both traces");
    }

    static void sniffAtEatersThatThereAreNot() {
        Edges.refusedOfEach(UNKNOWN, (x, a) -> x.sniff(a), -1, 3, 4);
        Edges.refusedOfEach(UNKNOWN, (x, a) -> x.sniff(a), Edges.FAR);
        Edges.refusedUntold(UNKNOWN, x -> x.sniff(0));
    }

    // ---- promise 28: as

    static void anEaterIsAnEaterAlone() {
        as('e', true, false, false);
    }

    static void aSlyOneIsAnEaterToo() {
        as('s', true, true, false);
    }

    static void aStrangerIsAll() {
        as('l', true, true, true);
    }

    private static void as(char kind, boolean... isOne) {
        for (int as = 0; as < isOne.length; as++) {
            MustardFast x = Due.told("d5,6;" + kind + "132");
            Edges.makeFault(x);
            Due.is(x, isOne[as] ? 1 : -12, isOne[as] ? 0 : Due.CAST, x.as(0, as), kind + " as " + as);
            Due.is("esl".indexOf(kind), x.ofEater(0, 0), "the kind stays");
        }
    }

    static void asCastChangesNothing() {
        Edges.faulted(Due.CAST, x -> x.as(0, 1));
        Edges.faulted(Due.CAST, x -> x.as(0, 2));
        Edges.faulted(Due.CAST, x -> x.as(1, 2));
    }

    static void asKindsThatThereAreNot() {
        Edges.refusedWithoutFaultOfEach(OUTSIDE, (x, kind) -> x.as(0, kind), -1, 3);
        Edges.refusedWithoutFaultOfEach(OUTSIDE, (x, kind) -> x.as(2, kind), Edges.FAR);
    }

    static void asOfEatersThatThereAreNot() {
        Edges.refusedWithoutFaultOfEach(UNKNOWN, (x, a) -> x.as(a, 0), -1, 3, 4);
        Edges.refusedWithoutFaultOfEach(UNKNOWN, (x, a) -> x.as(a, 0), Edges.FAR);
        Edges.refusedWithoutFaultUntold(UNKNOWN, x -> x.as(0, 0));
    }

    static void asUnknownAheadOfOutside() {
        Edges.refusedWithoutFault(UNKNOWN, x -> x.as(3, 3));
    }

    // ---- promise 29: trace

    static void traceIs0AtFirst() {
        Due.is(0, new MustardFast().trace(), "a new object");
        Due.is(0, Due.told(Due.VILLAGE).trace(), "with a duchy");
    }

    static void traceIsTheSameAskedTwice() {
        MustardFast x = Edges.busy();
        Due.is(63, x.trace(), "once");
        Due.is(63, x.trace(), "twice");
    }

    static void traceWrapsBelow0() {
        MustardFast x = Due.told("d5,6;e110");
        int[] want = {4, 128, 3972, 123136, 3817220, 118333824, -626618748, 2049655296, -885195260};
        for (int times = 0; times < want.length; times++) {
            x.sniff(0);
            Due.is(want[times], x.trace(), "sniffed at " + (times + 1) + " times");
        }
    }

    static void traceWrapsWithinATelling() {
        MustardFast x = Due.told("d5,6;l110");
        int[] want = {91327, -1556852226, 1822459837};
        for (int times = 0; times < want.length; times++) {
            Due.is(102, x.tell(0), "telling");
            Due.is(want[times], x.trace(), "told " + (times + 1) + " times");
        }
    }

    static void traceStaysBehindATextThatIsTaken() {
        MustardFast x = Edges.busy();
        x.duchy(3, Due.INTS, 0, 22);
        Due.is(63, x.trace(), "trace");
        x.tell(0);
        Due.is(63 * 31 + 1, x.trace(), "and goes on");
    }
}
