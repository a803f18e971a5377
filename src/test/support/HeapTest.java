import java.util.ArrayList;
import java.util.List;

/** What the tests of KilnHeap share: the count of wrong answers, and heaps in a state that is known. */
abstract class HeapTest {
    // Written out and not taken from KilnHeap, where they could be wrong.
    static final int REFUSED = -1, NULL = -2, FULL = -3;
    static final long REFERENCE = 1000000000000L, NOTHING = -1000000000000L, BAD = -2000000000000L;
    static final int MIN = Integer.MIN_VALUE, MAX = Integer.MAX_VALUE;
    static final int[] NO_REGISTERS = {-1, 8, 9, 15, MIN, MAX};

    /** The promise or the sentence of the document that the answers are due by. */
    static String part = "";
    private static int wrong = 0;

    interface Call {
        long on(KilnHeap x);
    }

    interface Test {
        void run() throws Exception;
    }

    static void due(String call, long got, long want) {
        if (got != want) {
            wrong++;
            System.out.println(part + ": " + call + " answered " + got + ", due is " + want);
        }
    }

    /** A call that throws is wrong too, and mustn't keep the tests after it from being run. */
    static void run(Test test) {
        part = "";
        try {
            test.run();
        } catch (Exception | StackOverflowError e) {
            wrong++;
            StackTraceElement[] trace = e.getStackTrace();
            System.out.println(part + ": " + e + (trace.length == 0 ? "" : " at " + trace[0]));
        }
    }

    static void end() {
        System.out.println(wrong == 0 ? "all answers are as due" : wrong + " answers are not as due");
        if (wrong != 0) {
            System.exit(1);
        }
    }

    static KilnHeap heap(int capacity) {
        return new KilnHeap(capacity, 0);
    }

    /** So many words that no register reaches. */
    static void waste(KilnHeap x, int words) {
        for (int i = 0; i < words; i++) {
            x.make(7, 0, 0);
        }
        x.clear(7);
    }

    /** So many words that this register alone reaches. */
    static void hold(KilnHeap x, int register, int words) {
        x.clear(register);
        if (words % 3 != 0) {
            x.make(register, words % 3 - 1, 0);
        }
        for (int left = words / 3; left > 0; left -= 20) {
            x.list(register, Math.min(left, 20), 0);
        }
    }

    /** A final list of so many, with serials from 1 on. */
    static KilnHeap withFinals(int length) {
        KilnHeap x = heap(96);
        for (int i = 0; i < length; i++) {
            x.make(0, 0, 1);
        }
        x.clear(0);
        x.collect();
        return x;
    }

    /** Full to the last of 20 words, 7 of them garbage that a weak one refers to; registers 4 and 7 hold null. */
    static KilnHeap busyHeap() {
        KilnHeap x = heap(20);
        x.make(0, 0, 1);
        x.clear(0);
        x.collect();
        x.make(0, 2, 0);
        x.make(1, 1, 1);
        x.weak(2, 1);
        x.put(0, 0, 55);
        x.link(0, 1, 1);
        x.list(3, 1, 9);
        x.make(4, 6, 1);
        x.weak(5, 4);
        x.clear(4);
        x.make(6, 0, 1);
        return x;
    }

    /** Looks at a call's answer and at all that it may have changed in the busy heap. */
    static void changesNothing(String text, Call call, long want) {
        KilnHeap x = busyHeap();
        due(text, call.on(x), want);
        List<Long> got = everything(x);
        List<Long> before = everything(busyHeap());
        for (int i = 0; i < before.size(); i++) {
            due("after " + text + " what is told in place " + i, got.get(i), before.get(i));
        }
    }

    /** All that calls can tell of a busy heap, and then of what it does next. */
    private static List<Long> everything(KilnHeap x) {
        List<Long> told = new ArrayList<>();
        tellCounts(x, told);
        for (int register = 0; register < 8; register++) {
            tellRegister(x, register, told);
        }
        x.load(7, 0, 1);
        tellRegister(x, 7, told);
        x.load(7, 5, 0);
        tellRegister(x, 7, told);
        x.clear(7);
        told.add((long) x.make(7, 0, 0));
        tellCounts(x, told);
        return told;
    }

    private static void tellCounts(KilnHeap x, List<Long> told) {
        for (int what = 0; what <= 4; what++) {
            told.add((long) x.count(what));
        }
        for (int back = 0; back <= 15; back++) {
            told.add((long) x.finalized(back));
        }
    }

    private static void tellRegister(KilnHeap x, int register, List<Long> told) {
        told.add((long) x.serial(register));
        told.add((long) x.shape(register));
        for (int field = 0; field < 6; field++) {
            told.add(x.read(register, field));
        }
    }
}
