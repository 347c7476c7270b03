/** Promises 26 to 30: telling, sniffing, kinds, and the trace that bodies leave. */
public final class PartsTest {
    public static void main(String[] args) {
        tell();
        sniff();
        as();
        traceWraps();
        Due.end();
    }

    /** What a trace becomes by bodies that begin one behind the other. */
    private static int behind(int trace, int... bodies) {
        int t = trace;
        for (int body : bodies) {
            t = 31 * t + body;
        }
        return t;
    }

    private static void tell() {
        MustardFast x = Due.told(Due.VILLAGE);
        Due.is(3, x.tell(0), "an eater tells spoons");
        int trace = behind(0, 1);
        Due.is(trace, x.trace(), "trace of an eater's telling");
        Due.is(105, x.tell(1), "a sly one tells 100 more");
        trace = behind(trace, 2, 1);
        Due.is(trace, x.trace(), "trace of a sly one's telling");
        Due.is(108, x.tell(2), "a stranger tells both");
        trace = behind(trace, 3, 2, 1, 1);
        Due.is(trace, x.trace(), "trace of a stranger's telling");
        Due.is(-1, x.tell(3), "tell of nobody");
        Due.is(-1, x.tell(-1), "tell of -1");
        Due.is(trace, x.trace(), "nobody leaves nothing");
        Due.is(-1, new MustardFast().tell(0), "tell without a duchy");
    }

    private static void sniff() {
        MustardFast x = Due.told("d5,6;l132;e132;s251;l541");
        Due.is(40, x.sniff(0), "a stranger has their own");
        int trace = behind(0, 5);
        Due.is(trace, x.trace(), "trace of a stranger");
        Due.is(1, x.sniff(1), "an eater's number");
        trace = behind(trace, 4);
        Due.is(trace, x.trace(), "trace of an eater");
        Due.is(2, x.sniff(2), "a sly one's number");
        Due.is(40, x.sniff(3), "the other stranger");
        trace = behind(trace, 4, 5);
        Due.is(trace, x.trace(), "trace of both");
        Due.is(-1, x.sniff(4), "sniff at nobody");
        Due.is(-1, x.sniff(-1), "sniff at -1");
        Due.is(trace, x.trace(), "nobody leaves nothing");
    }

    private static void as() {
        MustardFast x = Due.told(Due.VILLAGE);
        for (int a = 0; a < 3; a++) {
            for (int kind = 0; kind <= 2; kind++) {
                boolean isOne = kind <= a;
                Due.is(x, isOne ? 1 : -12, isOne ? 0 : 2, x.as(a, kind), a + " as " + kind);
            }
        }
        x.as(0, 2);
        Due.is(x, -1, 0, x.as(3, 3), "nobody ahead of the kind");
        x.as(0, 2);
        Due.is(x, -2, 0, x.as(0, 3), "kind 3");
        x.as(0, 2);
        Due.is(x, -2, 0, x.as(2, -1), "kind -1");
        Due.is(-1, x.as(-1, 0), "as of -1");
        Due.is(0, x.trace(), "as leaves nothing");
    }

    private static void traceWraps() {
        MustardFast x = Due.told("d5,6;l132");
        int trace = 0;
        for (int k = 0; k < 20; k++) {
            x.tell(0);
            x.sniff(0);
            trace = behind(trace, 3, 2, 1, 1, 5);
            Due.is(trace, x.trace(), "trace behind " + k);
        }
        Due.tell(x, "d5,6;e132");
        Due.is(trace, x.trace(), "a text leaves the trace");
    }
}
