import java.lang.reflect.Field;
import java.lang.reflect.Modifier;
import java.util.ArrayList;
import java.util.List;
import java.util.Random;

/** One method for each sentence of the fifteen promises that names a boundary case; no heap gets over 512 calls. */
public final class KilnHeapPromiseEdges extends HeapTest {
    private static void capacityTooSmallOrTooLarge() {
        part = "1: capacity: CAPACITY, below 16 counts as 16, above 96 as 96.";
        int[] given = {MIN, -97, -96, -17, -16, -1, 0, 1, 15, 16, 17, 18, 94, 95, 96, 97, 98, 112, 1000, MAX};
        for (int capacity : given) {
            int counts = capacity < 16 ? 16 : capacity > 96 ? 96 : capacity;
            KilnHeap x = heap(capacity);
            due("count(4) of " + capacity, x.count(4), counts);
            hold(x, 0, counts);
            due("count(1) of " + capacity + " when it is just full", x.count(1), counts);
            due("count(2) of " + capacity + " when it is just full", x.count(2), 0);
            due("make(1, 0, 0) of " + capacity + ", a word too many", x.make(1, 0, 0), FULL);
            due("count(4) of " + capacity + " stays", x.count(4), counts);
        }
        for (int capacity = 16; capacity <= 96; capacity++) {
            due("count(4) of " + capacity, heap(capacity).count(4), capacity);
        }
    }

    private static void anyLayout() {
        part = "1: layout: any int; it is only a hint for where objects are put and changes no answer.";
        int[] layouts = {MIN, MIN + 1, -96, -1, 1, 2, 3, 7, 15, 16, 31, 95, 96, 97, 1000, MAX - 1, MAX};
        for (int seed = 0; seed < 20; seed++) {
            int capacity = 16 + 4 * seed;
            List<Long> want = someRun(new KilnHeap(capacity, 0), seed);
            for (int layout : layouts) {
                List<Long> got = someRun(new KilnHeap(capacity, layout), seed);
                for (int i = 0; i < want.size(); i++) {
                    due("call " + i + " of run " + seed + " with layout " + layout, got.get(i), want.get(i));
                }
            }
        }
    }

    private static List<Long> someRun(KilnHeap x, int seed) {
        Random random = new Random(seed);
        List<Long> answers = new ArrayList<>();
        for (int i = 0; i < 500; i++) {
            answers.add(someCall(x, random));
        }
        return answers;
    }

    private static long someCall(KilnHeap x, Random random) {
        int a = random.nextInt(8);
        int b = random.nextInt(8);
        int field = random.nextInt(3);
        switch (random.nextInt(12)) {
            case 0: return x.make(a, random.nextInt(7), 1);
            case 1: return x.make(a, 2, 0);
            case 2: return x.weak(a, b);
            case 3: return x.list(a, random.nextInt(4), field);
            case 4: return x.link(a, field, b);
            case 5: return x.load(a, b, field);
            case 6: return x.read(a, field);
            case 7: return x.clear(a);
            case 8: return x.collect();
            case 9: return x.count(field);
            case 10: return x.finalized(b);
            default: return x.shape(a);
        }
    }

    private static void emptyAtFirst() {
        part = "1: All registers hold null, no object exists.";
        for (int register = 0; register < 8; register++) {
            KilnHeap x = heap(16);
            due("serial(" + register + ")", x.serial(register), NULL);
            due("shape(" + register + ")", x.shape(register), NULL);
            due("copy(0, " + register + ")", x.copy(0, register), NULL);
            due("read(" + register + ", 0)", x.read(register, 0), BAD);
            due("put(" + register + ", 0, 1)", x.put(register, 0, 1), NULL);
        }
        KilnHeap x = heap(16);
        for (int what = 0; what <= 3; what++) {
            due("count(" + what + ")", x.count(what), 0);
        }
        for (int back = 0; back <= 15; back++) {
            due("finalized(" + back + ")", x.finalized(back), 0);
        }
        due("collect()", x.collect(), 0);
    }

    private static void makeFewestAndMost() {
        part = "2: Makes an object of kind 0 or 1 with this number of fields (0 .. 6), all int 0; the register refers to it.";
        for (int kind = 0; kind <= 1; kind++) {
            for (int fields = 0; fields <= 6; fields++) {
                for (int register = 0; register <= 7; register += 7) {
                    makeOverOld(register, fields, kind);
                }
            }
        }
    }

    /** Makes it where one with references in all its fields has been before. */
    private static void makeOverOld(int register, int fields, int kind) {
        KilnHeap x = heap(16);
        x.make(register, 6, 1 - kind);
        for (int field = 0; field < 6; field++) {
            x.link(register, field, field % 2 == 0 ? register : 3);
        }
        x.clear(register);
        x.collect();
        String text = "make(" + register + ", " + fields + ", " + kind + ")";
        due(text, x.make(register, fields, kind), 2);
        due("serial after " + text, x.serial(register), 2);
        due("shape after " + text, x.shape(register), kind * 8 + fields);
        for (int field = 0; field < fields; field++) {
            due("read of field " + field + " after " + text, x.read(register, field), 0);
            due("load of field " + field + " after " + text, x.load(3, register, field), REFUSED);
        }
        due("read of a field more after " + text, x.read(register, fields), BAD);
    }

    private static void makeRefused() {
        part = "2: Another kind or number: REFUSED.";
        int[] noNumbers = {-1, 7, 8, MIN, MAX};
        int[] noKinds = {-1, 2, 3, 8, MIN, MAX};
        for (int no : noNumbers) {
            changesNothing("make(4, " + no + ", 0)", x -> x.make(4, no, 0), REFUSED);
            changesNothing("make(0, " + no + ", 1)", x -> x.make(0, no, 1), REFUSED);
        }
        for (int no : noKinds) {
            changesNothing("make(4, 0, " + no + ")", x -> x.make(4, 0, no), REFUSED);
            changesNothing("make(0, 1, " + no + ")", x -> x.make(0, 1, no), REFUSED);
            changesNothing("make(0, 6, " + no + ")", x -> x.make(0, 6, no), REFUSED);
        }
        changesNothing("make(0, 7, 2)", x -> x.make(0, 7, 2), REFUSED);
        due("make(0, 7, 0) in an empty heap", heap(96).make(0, 7, 0), REFUSED);
        due("make(0, 1, 2) in an empty heap", heap(96).make(0, 1, 2), REFUSED);
    }

    private static void weakOfNull() {
        part = "3: Makes a weak object whose field refers to what the register target refers to (or is null); the register refers to it.";
        for (int target = 0; target < 8; target++) {
            KilnHeap empty = heap(16);
            due("weak(2, " + target + ")", empty.weak(2, target), 1);
            due("read(2, 0)", empty.read(2, 0), NOTHING);
            due("load(3, 2, 0)", empty.load(3, 2, 0), 0);
            due("serial(3)", empty.serial(3), NULL);
            due("collect()", empty.collect(), 2);
            due("read(2, 0) after a collection", empty.read(2, 0), NOTHING);
            KilnHeap x = heap(16);
            x.make(target, 0, 0);
            due("weak(" + target + ", " + target + ")", x.weak(target, target), 2);
            due("read of it: what the register referred to before", x.read(target, 0), REFERENCE + 1);
            due("weak over the weak one", x.weak(target, target), 3);
            due("read of it", x.read(target, 0), REFERENCE + 2);
        }
        KilnHeap old = heap(16);
        old.make(0, 1, 0);
        old.put(0, 0, 77);
        old.clear(0);
        old.collect();
        due("weak(0, 0) where an int has been", old.weak(0, 0), 2);
        due("read(0, 0)", old.read(0, 0), NOTHING);
        KilnHeap kinds = heap(16);
        kinds.make(0, 6, 1);
        kinds.weak(1, 0);
        kinds.weak(2, 1);
        due("read(1, 0) of a finalizable one", kinds.read(1, 0), REFERENCE + 1);
        due("read(2, 0) of a weak one", kinds.read(2, 0), REFERENCE + 2);
    }

    private static void listCount() {
        part = "4: Makes count (0 .. 20, else REFUSED) plain objects with two fields, one after the other";
        int[] noCounts = {-1, -20, 21, 22, 96, MIN, MAX};
        for (int no : noCounts) {
            changesNothing("list(4, " + no + ", 0)", x -> x.list(4, no, 0), REFUSED);
            changesNothing("list(3, " + no + ", 0)", x -> x.list(3, no, 0), REFUSED);
            due("list(0, " + no + ", 0) in an empty heap", heap(96).list(0, no, 0), REFUSED);
        }
        changesNothing("list(4, 0, 5)", x -> x.list(4, 0, 5), 0);
        changesNothing("list(3, 0, 5)", x -> x.list(3, 0, 5), 0);
        for (int count = 0; count <= 20; count++) {
            KilnHeap x = heap(96);
            due("list(0, " + count + ", 0)", x.list(0, count, 0), count);
            due("count(0) after list(0, " + count + ", 0)", x.count(0), 3 * count);
            due("serial(0)", x.serial(0), count == 0 ? NULL : count);
            due("shape(0)", x.shape(0), count == 0 ? NULL : 2);
        }
        KilnHeap x = heap(96);
        x.list(0, 20, 0);
        x.clear(0);
        x.collect();
        due("count(3): they are plain", x.count(3), 0);
    }

    private static void listNumbers() {
        part = "4: the first field of the j-th (from 0) is the int start + j";
        int[] starts = {0, 1, -1, -10, MAX, MAX - 1, MAX - 19, MAX - 10, MIN, MIN + 1};
        for (int start : starts) {
            KilnHeap x = heap(96);
            x.list(6, 20, start);
            for (int j = 19; j >= 0; j--) {
                due("read(6, 0), j: " + j + ", start: " + start, x.read(6, 0), start + j);
                due("load(5, 6, 0): an int", x.load(5, 6, 0), REFUSED);
                x.load(6, 6, 1);
            }
            due("serial(6) at the end", x.serial(6), NULL);
        }
        KilnHeap x = heap(96);
        x.list(0, 2, MAX);
        due("read(0, 0) after list(0, 2, MAX) wraps", x.read(0, 0), -2147483648L);
    }

    private static void listRest() {
        part = "4: the second one what the register held (a reference or null) before it was made; then the register refers to it.";
        KilnHeap x = heap(96);
        x.list(0, 1, 0);
        due("read(0, 1) where the register held null", x.read(0, 1), NOTHING);
        x.list(0, 2, 0);
        due("read(0, 1)", x.read(0, 1), REFERENCE + 2);
        x.load(0, 0, 1);
        due("read(0, 1) where the register held a list", x.read(0, 1), REFERENCE + 1);
        x.make(1, 6, 1);
        x.list(1, 1, 0);
        due("read(1, 1) where it held a finalizable one", x.read(1, 1), REFERENCE + 4);
        x.weak(2, 7);
        x.list(2, 1, 0);
        due("read(2, 1) where it held a weak one", x.read(2, 1), REFERENCE + 6);
        due("serial(2)", x.serial(2), 7);
        x.collect();
        x.load(1, 1, 1);
        due("shape(1): it stayed", x.shape(1), 14);
        KilnHeap old = heap(16);
        old.make(0, 2, 0);
        old.link(0, 1, 0);
        old.clear(0);
        old.collect();
        old.list(0, 1, 0);
        due("read(0, 1) where a reference has been", old.read(0, 1), NOTHING);
    }

    private static void listEndsEarly() {
        part = "4: Ends early when one can't be made. Answers how many were made.";
        for (int free = 0; free <= 61; free++) {
            int most = Math.min(free / 3, 20);
            KilnHeap x = heap(96);
            hold(x, 0, 96 - free);
            int last = x.serial(0);
            due("list(1, 20, 7) with free words: " + free, x.list(1, 20, 7), most);
            due("count(2): only the one that can't be made has a collection", x.count(2), most < 20 ? 1 : 0);
            due("count(1)", x.count(1), 96 - free + 3 * most);
            due("serial(1)", x.serial(1), most == 0 ? NULL : last + most);
            due("read(1, 0)", x.read(1, 0), most == 0 ? BAD : 7 + most - 1);
            due("serial(0)", x.serial(0), last);
        }
        KilnHeap x = heap(16);
        hold(x, 0, 10);
        waste(x, 6);
        due("list(1, 3, 0) with garbage", x.list(1, 3, 0), 2);
        due("count(2): before the first and before the third", x.count(2), 2);
        due("count(0)", x.count(0), 16);
        due("list(1, 3, 0) with none left", x.list(1, 3, 0), 0);
        due("serial(1): the register stays", x.serial(1), 12);
        due("count(2): it ends at the first", x.count(2), 3);
        due("make(1, 0, 0): what wasn't made takes no number", makeAfterClear(x), 13);
    }

    private static int makeAfterClear(KilnHeap x) {
        x.clear(1);
        return x.make(1, 0, 0);
    }

    private static void putAnyInt() {
        part = "5: The register must refer to an object: its field becomes the int.";
        int[] values = {MIN, MIN + 1, -3, -2, -1, 0, 1, 7, 8, 95, 96, MAX - 1, MAX};
        for (int register = 0; register <= 7; register += 7) {
            for (int field = 0; field <= 5; field += 5) {
                KilnHeap x = heap(16);
                x.make(register, 6, 0);
                for (int value : values) {
                    due("put(" + register + ", " + field + ", " + value + ")", x.put(register, field, value), 0);
                    due("read after it", x.read(register, field), value);
                    due("read of another field", x.read(register, 5 - field), 0);
                    x.link(register, field, register);
                }
            }
        }
        KilnHeap x = heap(20);
        x.make(0, 1, 1);
        x.make(1, 0, 1);
        x.link(0, 0, 1);
        x.clear(1);
        due("put(0, 0, 1) over the only reference", x.put(0, 0, 1), 0);
        due("collect()", x.collect(), 2);
        due("finalized(0)", x.finalized(0), 2);
        changesNothing("put(4, 0, 1) of null", y -> y.put(4, 0, 1), NULL);
        changesNothing("put(6, 0, 1) of one without fields", y -> y.put(6, 0, 1), REFUSED);
    }

    private static void putWeak() {
        part = "5: REFUSED if the object is weak.";
        int[] values = {0, 1, -1, -2, MIN, MAX};
        for (int value : values) {
            changesNothing("put(2, 0, " + value + ")", x -> x.put(2, 0, value), REFUSED);
            changesNothing("put(5, 0, " + value + ")", x -> x.put(5, 0, value), REFUSED);
        }
        KilnHeap x = heap(16);
        x.weak(0, 1);
        due("put(0, 0, 5) where it holds null", x.put(0, 0, 5), REFUSED);
        due("read(0, 0)", x.read(0, 0), NOTHING);
    }

    private static void linkReferenceOrNull() {
        part = "6: The register must refer to an object: its field becomes what the register from holds (a reference or null).";
        for (int from = 0; from < 8; from++) {
            KilnHeap x = heap(30);
            x.make(3, 6, 0);
            due("link(3, 5, " + from + ")", x.link(3, 5, from), 0);
            due("read(3, 5)", x.read(3, 5), from == 3 ? REFERENCE + 1 : NOTHING);
            due("load(2, 3, 5)", x.load(2, 3, 5), 0);
            x.make(3, 1, 1);
            x.make(from == 3 ? 0 : from, 0, 0);
            x.link(3, 0, from);
            due("read(3, 0)", x.read(3, 0), from == 3 ? REFERENCE + 2 : REFERENCE + 3);
            x.clear(from == 3 ? 0 : from);
            x.clear(2);
            due("collect()", x.collect(), from == 3 ? 2 : 3);
            due("read(3, 0) when from is cleared", x.read(3, 0), from == 3 ? REFERENCE + 2 : REFERENCE + 3);
        }
        KilnHeap x = heap(30);
        x.make(0, 1, 0);
        x.weak(1, 0);
        x.link(0, 0, 1);
        due("read(0, 0) of a reference to a weak one", x.read(0, 0), REFERENCE + 2);
        x.clear(1);
        x.link(0, 0, 1);
        due("read(0, 0) of null over a reference", x.read(0, 0), NOTHING);
        due("collect(): the weak one is gone", x.collect(), 2);
        changesNothing("link(4, 0, 0) of null", y -> y.link(4, 0, 0), NULL);
        changesNothing("link(6, 0, 0) of one without fields", y -> y.link(6, 0, 0), REFUSED);
    }

    private static void linkWeakOrNoFrom() {
        part = "6: REFUSED if the object is weak (and if from is not 0 .. 7).";
        for (int register = 0; register < 8; register++) {
            int from = register;
            changesNothing("link(2, 0, " + from + ")", x -> x.link(2, 0, from), REFUSED);
            changesNothing("link(5, 0, " + from + ")", x -> x.link(5, 0, from), REFUSED);
        }
        for (int no : NO_REGISTERS) {
            changesNothing("link(0, 0, " + no + ")", x -> x.link(0, 0, no), REFUSED);
            changesNothing("link(2, 0, " + no + ")", x -> x.link(2, 0, no), REFUSED);
            changesNothing("link(4, 0, " + no + ")", x -> x.link(4, 0, no), REFUSED);
            changesNothing("link(6, 0, " + no + ")", x -> x.link(6, 0, no), REFUSED);
        }
    }

    private static void loadOfInt() {
        part = "7: Its field holds an int: REFUSED.";
        int[] values = {0, 1, -1, -2, 7, MIN, MAX};
        for (int value : values) {
            KilnHeap x = heap(16);
            x.make(0, 6, 0);
            x.make(1, 0, 0);
            x.put(0, 5, value);
            due("load(1, 0, 5) of " + value, x.load(1, 0, 5), REFUSED);
            due("load(0, 0, 5) of " + value, x.load(0, 0, 5), REFUSED);
            due("load(2, 0, 5) of " + value, x.load(2, 0, 5), REFUSED);
            due("serial(0)", x.serial(0), 1);
            due("serial(1)", x.serial(1), 2);
            due("serial(2)", x.serial(2), NULL);
            x.link(0, 5, 1);
            due("load(2, 0, 5) of a reference", x.load(2, 0, 5), 0);
            x.put(0, 5, value);
            due("load(2, 0, 5) of an int over a reference", x.load(2, 0, 5), REFUSED);
        }
        changesNothing("load(4, 0, 0)", x -> x.load(4, 0, 0), REFUSED);
        changesNothing("load(0, 0, 0)", x -> x.load(0, 0, 0), REFUSED);
        changesNothing("load(0, 4, 0) of null", x -> x.load(0, 4, 0), NULL);
        changesNothing("load(0, 6, 0) of one without fields", x -> x.load(0, 6, 0), REFUSED);
    }

    private static void loadOfNull() {
        part = "7: Else the register to holds what the field holds.";
        KilnHeap x = heap(16);
        x.make(0, 2, 0);
        x.make(1, 0, 0);
        x.link(0, 0, 1);
        x.link(0, 1, 7);
        for (int to = 1; to < 8; to++) {
            due("load(" + to + ", 0, 0)", x.load(to, 0, 0), 0);
            due("serial(" + to + ")", x.serial(to), 2);
            due("load(" + to + ", 0, 1) of null", x.load(to, 0, 1), 0);
            due("serial(" + to + ")", x.serial(to), NULL);
        }
        due("read(0, 0): the field stays", x.read(0, 0), REFERENCE + 2);
        x.weak(1, 0);
        due("load(2, 1, 0) of a weak one", x.load(2, 1, 0), 0);
        due("serial(2)", x.serial(2), 1);
        due("load(0, 0, 0) into the register itself", x.load(0, 0, 0), 0);
        due("serial(0)", x.serial(0), 2);
        due("load(2, 2, 1) of null into the register itself", x.load(2, 2, 1), 0);
        due("serial(2)", x.serial(2), NULL);
        x.collect();
        due("load(0, 1, 0) of a weak one whose target is gone", x.load(0, 1, 0), 0);
        due("serial(0)", x.serial(0), NULL);
    }

    private static void copyOfNull() {
        part = "8: The register from must not be null, else it is NULL: the register to refers to the same object.";
        changesNothing("copy(0, 4)", x -> x.copy(0, 4), NULL);
        changesNothing("copy(4, 4)", x -> x.copy(4, 4), NULL);
        changesNothing("copy(7, 4)", x -> x.copy(7, 4), NULL);
        changesNothing("copy(0, 0)", x -> x.copy(0, 0), 2);
        for (int from = 0; from < 8; from++) {
            KilnHeap x = heap(16);
            x.make(from, 1, 0);
            for (int to = 0; to < 8; to++) {
                due("copy(" + to + ", " + from + ")", x.copy(to, from), 1);
                due("serial(" + to + ")", x.serial(to), 1);
            }
            x.put(7 - from, 0, 31);
            due("read(" + from + ", 0) of what was put through another", x.read(from, 0), 31);
            due("count(0): it is the same object", x.count(0), 2);
        }
    }

    private static void clearOfNull() {
        part = "9: The register holds null. Answers 0.";
        changesNothing("clear(4)", x -> x.clear(4), 0);
        changesNothing("clear(7)", x -> x.clear(7), 0);
        for (int register = 0; register < 8; register++) {
            KilnHeap x = heap(16);
            for (int other = 0; other < 8; other++) {
                x.make(other, 0, 0);
            }
            due("clear(" + register + ")", x.clear(register), 0);
            due("clear(" + register + ") again", x.clear(register), 0);
            for (int other = 0; other < 8; other++) {
                due("serial(" + other + ")", x.serial(other), other == register ? NULL : other + 1);
            }
            due("count(0): nothing is collected", x.count(0), 8);
        }
    }

    private static void readAll() {
        part = "10: What the field of the object holds: an int as itself, REFERENCE + the serial, NOTHING for null.";
        KilnHeap x = heap(30);
        x.make(0, 6, 0);
        int[] values = {MIN, MAX, -1, -2, -3, 0};
        for (int field = 0; field < 6; field++) {
            x.put(0, field, values[field]);
        }
        for (int field = 0; field < 6; field++) {
            due("read(0, " + field + ")", x.read(0, field), values[field]);
        }
        for (int made = 2; made <= 300; made++) {
            x.make(1, 0, 0);
        }
        x.link(0, 5, 1);
        due("read(0, 5) of the 300th object", x.read(0, 5), REFERENCE + 300);
        x.link(0, 0, 2);
        due("read(0, 0) of null", x.read(0, 0), NOTHING);
        due("read(0, 1): the other fields stay", x.read(0, 1), MAX);
    }

    private static void readBad() {
        part = "10: BAD where a call with an int answer would be REFUSED or NULL.";
        for (int no : NO_REGISTERS) {
            changesNothing("read(" + no + ", 0)", x -> x.read(no, 0), BAD);
        }
        int[] noFields = {-1, 2, 6, 7, MIN, MAX};
        for (int no : noFields) {
            changesNothing("read(0, " + no + ")", x -> x.read(0, no), BAD);
            changesNothing("read(5, " + no + ") of a weak one", x -> x.read(5, no), BAD);
        }
        changesNothing("read(4, 0) of null", x -> x.read(4, 0), BAD);
        changesNothing("read(4, 6) of null", x -> x.read(4, 6), BAD);
        changesNothing("read(6, 0) of one without fields", x -> x.read(6, 0), BAD);
    }

    private static void serialOrNull() {
        part = "11: The serial number of the object that the register refers to; NULL.";
        changesNothing("serial(4)", x -> x.serial(4), NULL);
        changesNothing("serial(7)", x -> x.serial(7), NULL);
        changesNothing("serial(0)", x -> x.serial(0), 2);
        changesNothing("serial(6)", x -> x.serial(6), 8);
        KilnHeap x = heap(16);
        x.make(0, 0, 0);
        for (int made = 2; made <= 200; made++) {
            x.make(1 + made % 7, 0, 0);
        }
        due("serial(0) after many collections", x.serial(0), 1);
        due("serial(5) of the 200th", x.serial(5), 200);
        due("serial(4) of the 199th", x.serial(4), 199);
        x.clear(5);
        due("serial(5) when cleared", x.serial(5), NULL);
    }

    private static void shapeOrNull() {
        part = "12: Kind * 8 + number of fields of the object that the register refers to; NULL.";
        changesNothing("shape(4)", x -> x.shape(4), NULL);
        changesNothing("shape(7)", x -> x.shape(7), NULL);
        for (int fields = 0; fields <= 6; fields++) {
            KilnHeap x = heap(16);
            x.make(0, fields, 0);
            due("shape(0), plain with " + fields, x.shape(0), fields);
            x.make(7, fields, 1);
            due("shape(7), finalizable with " + fields, x.shape(7), 8 + fields);
            x.weak(3, 0);
            due("shape(3), weak", x.shape(3), 17);
            x.clear(0);
            due("shape(0) when cleared", x.shape(0), NULL);
        }
    }

    private static void collectAnswers() {
        part = "13: A collection. Answers the words of all objects that exist then.";
        for (int held = 0; held <= 96; held++) {
            KilnHeap x = heap(96);
            hold(x, 0, held);
            waste(x, 96 - held);
            due("count(0) when full", x.count(0), 96);
            due("collect() of held words: " + held, x.collect(), held);
            due("count(0)", x.count(0), held);
            due("count(2)", x.count(2), 1);
            due("collect() where nothing is to be done", x.collect(), held);
            due("count(2): it was a collection", x.count(2), 2);
        }
    }

    private static void countWords() {
        part = "14: what 0: the words of all existing objects; 1: the words of all reachable objects";
        KilnHeap x = heap(96);
        due("count(0) of none", x.count(0), 0);
        due("count(1) of none", x.count(1), 0);
        hold(x, 0, 96);
        due("count(0) of a full heap", x.count(0), 96);
        due("count(1) of a full heap", x.count(1), 96);
        x.clear(0);
        due("count(0) with none reachable", x.count(0), 96);
        due("count(1) with none reachable", x.count(1), 0);
        due("count(0): asking takes nothing away", x.count(0), 96);
        due("count(2): nor is it a collection", x.count(2), 0);
        changesNothing("count(0)", y -> y.count(0), 20);
        changesNothing("count(1)", y -> y.count(1), 13);
    }

    private static void countCollections() throws ReflectiveOperationException {
        part = "14: 2: how many collections there were (wraps)";
        KilnHeap x = heap(16);
        due("count(2) of none", x.count(2), 0);
        for (int round = 1; round <= 250; round++) {
            x.collect();
            due("count(2)", x.count(2), round);
        }
        KilnHeap full = heap(16);
        hold(full, 0, 16);
        full.make(1, 0, 0);
        full.weak(1, 0);
        full.list(1, 20, 0);
        full.collect();
        due("count(2): one of each call", full.count(2), 4);
        changesNothing("count(2)", y -> y.count(2), 1);
        wrapOfCollections();
    }

    /** No 512 calls get there: the number is set from outside, in whichever field it is. */
    private static void wrapOfCollections() throws ReflectiveOperationException {
        boolean seen = false;
        for (Field field : KilnHeap.class.getDeclaredFields()) {
            if (Modifier.isStatic(field.getModifiers()) || field.getType() != int.class) {
                continue;
            }
            KilnHeap x = heap(16);
            field.setAccessible(true);
            field.setInt(x, MAX);
            if (x.count(2) == MAX) {
                seen = true;
                due("collect() after 2147483647 others", x.collect(), 0);
                due("count(2) wraps", x.count(2), MIN);
                x.collect();
                due("count(2)", x.count(2), MIN + 1);
                field.setInt(x, -1);
                x.collect();
                due("count(2) wraps to 0", x.count(2), 0);
            }
        }
        if (!seen) {
            System.out.println("the wrap of count(2) was not looked at: no int field holds the number");
        }
    }

    private static void countFinals() {
        part = "14: 3: the length of the final list";
        int[] lengths = {0, 1, 2, 15, 16, 17, 31, 32, 33, 95, 96};
        for (int length : lengths) {
            due("count(3) of " + length, withFinals(length).count(3), length);
        }
        changesNothing("count(3)", x -> x.count(3), 1);
        KilnHeap x = heap(16);
        for (int made = 0; made < 500; made++) {
            x.make(0, 0, 1);
        }
        x.clear(0);
        x.collect();
        due("count(3) of 500", x.count(3), 500);
    }

    private static void countCapacity() {
        part = "14: 4: CAPACITY";
        due("count(4) below the least", heap(15).count(4), 16);
        due("count(4) of the least", heap(16).count(4), 16);
        due("count(4) of the greatest", heap(96).count(4), 96);
        due("count(4) over the greatest", heap(97).count(4), 96);
        changesNothing("count(4)", x -> x.count(4), 20);
    }

    private static void countElse() {
        part = "14: else REFUSED.";
        int[] noWhats = {-1, -2, 5, 6, 8, MIN, MAX};
        for (int no : noWhats) {
            changesNothing("count(" + no + ")", x -> x.count(no), REFUSED);
        }
    }

    private static void finalizedBack() {
        part = "15: The serial that stands 'back' places before the last of the final list (0: the last), for back 0 .. 15";
        int[] lengths = {1, 2, 14, 15, 16, 17, 31, 32, 33, 95, 96};
        for (int length : lengths) {
            KilnHeap x = withFinals(length);
            for (int back = 0; back <= 15 && back < length; back++) {
                due("finalized(" + back + ") of " + length, x.finalized(back), length - back);
            }
        }
        KilnHeap x = heap(16);
        for (int serial = 1; serial <= 40; serial++) {
            x.make(0, 0, 1);
            x.clear(0);
            x.collect();
            due("finalized(0) of one by one", x.finalized(0), serial);
            due("finalized(15) of one by one", x.finalized(15), serial > 15 ? serial - 15 : 0);
        }
        changesNothing("finalized(0)", y -> y.finalized(0), 1);
    }

    private static void finalizedNone() {
        part = "15: 0 if there is none.";
        int[] lengths = {0, 1, 2, 14, 15};
        for (int length : lengths) {
            KilnHeap x = withFinals(length);
            for (int back = length; back <= 15; back++) {
                due("finalized(" + back + ") of " + length, x.finalized(back), 0);
            }
        }
        // The document tells no other answer for a number outside 0 .. 15.
        int[] noBacks = {-1, -16, 16, 17, 31, 32, MIN, MAX};
        for (int no : noBacks) {
            due("finalized(" + no + ") of none", heap(16).finalized(no), 0);
            due("finalized(" + no + ") of 96", withFinals(96).finalized(no), 0);
            changesNothing("finalized(" + no + ")", x -> x.finalized(no), 0);
        }
    }

    public static void main(String[] args) {
        run(KilnHeapPromiseEdges::capacityTooSmallOrTooLarge);
        run(KilnHeapPromiseEdges::anyLayout);
        run(KilnHeapPromiseEdges::emptyAtFirst);
        run(KilnHeapPromiseEdges::makeFewestAndMost);
        run(KilnHeapPromiseEdges::makeRefused);
        run(KilnHeapPromiseEdges::weakOfNull);
        run(KilnHeapPromiseEdges::listCount);
        run(KilnHeapPromiseEdges::listNumbers);
        run(KilnHeapPromiseEdges::listRest);
        run(KilnHeapPromiseEdges::listEndsEarly);
        run(KilnHeapPromiseEdges::putAnyInt);
        run(KilnHeapPromiseEdges::putWeak);
        run(KilnHeapPromiseEdges::linkReferenceOrNull);
        run(KilnHeapPromiseEdges::linkWeakOrNoFrom);
        run(KilnHeapPromiseEdges::loadOfInt);
        run(KilnHeapPromiseEdges::loadOfNull);
        run(KilnHeapPromiseEdges::copyOfNull);
        run(KilnHeapPromiseEdges::clearOfNull);
        run(KilnHeapPromiseEdges::readAll);
        run(KilnHeapPromiseEdges::readBad);
        run(KilnHeapPromiseEdges::serialOrNull);
        run(KilnHeapPromiseEdges::shapeOrNull);
        run(KilnHeapPromiseEdges::collectAnswers);
        run(KilnHeapPromiseEdges::countWords);
        run(KilnHeapPromiseEdges::countCollections);
        run(KilnHeapPromiseEdges::countFinals);
        run(KilnHeapPromiseEdges::countCapacity);
        run(KilnHeapPromiseEdges::countElse);
        run(KilnHeapPromiseEdges::finalizedBack);
        run(KilnHeapPromiseEdges::finalizedNone);
        end();
    }
}
