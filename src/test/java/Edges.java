import java.lang.reflect.Method;
import java.util.ArrayList;
import java.util.Comparator;
import java.util.List;

/**
 * What the tests of boundary cases share. A case is a static method without parameters: each stands for one sentence
 * of the document, makes objects of its own, and is run by all(..), so that none can be forgotten.
 */
final class Edges {
    static final int NO_FAULT = 0;
    static final int STANDING = Due.SIZE;
    static final int[] FAR = {Integer.MIN_VALUE, Integer.MIN_VALUE + 1, Integer.MAX_VALUE - 1, Integer.MAX_VALUE};

    /** A call on an object: int answers become longs. */
    interface Call {
        long on(MustardFast x);
    }

    /** A call of one number, for cases that hold of several. */
    interface CallOf {
        long on(MustardFast x, int v);
    }

    private Edges() {
    }

    static void all(Class<?> test) throws ReflectiveOperationException {
        List<Method> cases = new ArrayList<>();
        for (Method m : test.getDeclaredMethods()) {
            if (m.getParameterCount() == 0 && m.getReturnType() == void.class && !m.isSynthetic()) {
                cases.add(m);
            }
        }
        cases.sort(Comparator.comparing(Method::getName));
        for (Method m : cases) {
            Due.begin(m.getName());
            m.invoke(null);
            Due.holds(Due.askedOfCase() > 0, "a case that asks nothing");
        }
        System.out.println(cases.size() + " cases");
        Due.end();
    }

    /**
     * Eaters 0 EATER, 1 SLY, 2 STRANGER; four days, fasts 0 and 2; sheet 0 three bytes, 1 two shorts, 2 nothing,
     * 3 the text as 22 ints; two readings; a trace; and the fault SIZE stands.
     */
    static MustardFast busy() {
        MustardFast x = Due.told(Due.VILLAGE);
        x.reading(0, 1, 0, true);
        x.reading(1, 1, 2, false);
        Due.row(x, 0, Due.BYTES, 1, 2, 4);
        Due.row(x, 1, Due.SHORTS, 300, -5);
        x.tell(1);
        makeFault(x);
        return x;
    }

    /** No duchy, but the sheets of busy(). */
    static MustardFast untold() {
        MustardFast x = new MustardFast();
        Due.row(x, 0, Due.BYTES, 1, 2, 4);
        Due.row(x, 1, Due.SHORTS, 300, -5);
        Due.row(x, 3, Due.INTS, Due.codes(Due.VILLAGE));
        makeFault(x);
        return x;
    }

    static void makeFault(MustardFast x) {
        Due.is(-10 - STANDING, x.sheet(0, Due.BYTES, -1), "a fault that stands");
    }

    /** A refusal by a call that names no FAULTS: it leaves even fault() as it was. */
    static void refused(long want, Call call) {
        unchanging(busy(), want, STANDING, call);
    }

    static void refusedOfEach(long want, CallOf call, int... numbers) {
        for (int v : numbers) {
            refused(want, x -> call.on(x, v));
        }
    }

    static void refusedUntold(long want, Call call) {
        unchanging(untold(), want, STANDING, call);
    }

    /** A refusal by a call that names FAULTS: fault() is 0 behind it. */
    static void refusedWithoutFault(long want, Call call) {
        unchanging(busy(), want, NO_FAULT, call);
    }

    static void refusedWithoutFaultOfEach(long want, CallOf call, int... numbers) {
        for (int v : numbers) {
            refusedWithoutFault(want, x -> call.on(x, v));
        }
    }

    static void refusedWithoutFaultUntold(long want, Call call) {
        unchanging(untold(), want, NO_FAULT, call);
    }

    static void faulted(int fault, Call call) {
        unchanging(busy(), -10 - fault, fault, call);
    }

    static void faultedOfEach(int fault, CallOf call, int... numbers) {
        for (int v : numbers) {
            faulted(fault, x -> call.on(x, v));
        }
    }

    /** A fault of a call that answers a long. */
    static void lost(int fault, Call call) {
        unchanging(busy(), Long.MIN_VALUE, fault, call);
    }

    static void lostOfEach(int fault, CallOf call, int... numbers) {
        for (int v : numbers) {
            lost(fault, x -> call.on(x, v));
        }
    }

    static void unchanging(MustardFast x, long want, int fault, Call call) {
        List<Long> before = seen(x);
        // Looking at cells names faults: the one that is to stand is made again.
        makeFault(x);
        Due.is(want, call.on(x), "the call");
        Due.is(fault, x.fault(), "fault() behind the call");
        List<Long> behind = seen(x);
        Due.holds(before.equals(behind), "nothing is changed: " + before + " became " + behind);
    }

    /** All that can be seen of an object, but for its fault. */
    static List<Long> seen(MustardFast x) {
        List<Long> all = new ArrayList<>();
        for (int what = 0; what < 4; what++) {
            all.add((long) x.many(what));
        }
        for (int a = 0; a < 4; a++) {
            for (int what = 0; what < 4; what++) {
                all.add((long) x.ofEater(a, what));
            }
            all.add((long) x.stays(a));
            all.add((long) x.kinds(a));
        }
        for (int d = 0; d < 6; d++) {
            all.add((long) x.look(d));
        }
        all.add((long) x.sours());
        all.add((long) x.trace());
        for (int k = 0; k < 4; k++) {
            addSheet(all, x, k);
        }
        return all;
    }

    private static void addSheet(List<Long> all, MustardFast x, int k) {
        for (int lane = 0; lane < 3; lane++) {
            long cell = x.cell(k, 0, lane);
            all.add((long) x.fault());
            for (int i = 1; cell != Long.MIN_VALUE && i <= 60; i++) {
                all.add(cell);
                cell = x.cell(k, i, lane);
            }
        }
    }

    /** What duchy(..) answers of a text that is all of a row of ints, on a new object. */
    static int answerTo(String text) {
        MustardFast x = new MustardFast();
        Due.row(x, 0, Due.INTS, Due.codes(text));
        return x.duchy(0, Due.INTS, 0, text.length());
    }

    /** A text that is taken tells as many eaters. */
    static void taken(int eaters, String text) {
        Due.is(eaters, answerTo(text), "duchy of '" + text + "'");
    }

    /** The FIRST FAULT of a text; the old duchy stays, and no FAULT of the machine is told. */
    static void firstFault(int place, String text) {
        MustardFast x = busy();
        Due.row(x, 2, Due.INTS, Due.codes(text));
        unchanging(x, -100 - place, NO_FAULT, y -> y.duchy(2, Due.INTS, 0, text.length()));
    }
}
