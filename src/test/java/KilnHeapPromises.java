/** One method for each promise of the document: ordinary inputs, the edges it names, and wrong inputs. */
public final class KilnHeapPromises extends HeapTest {
    /** A heap of 16 words that register 0 fills wholly, with serials 1 .. 3. */
    private static KilnHeap fullHeap() {
        KilnHeap x = heap(16);
        x.make(0, 6, 0);
        x.make(1, 6, 0);
        x.make(2, 1, 0);
        x.link(0, 0, 1);
        x.link(0, 1, 2);
        x.clear(1);
        x.clear(2);
        return x;
    }

    private static void newObject() {
        part = "promise 1";
        int[] given = {16, 17, 50, 95, 96, 15, 0, -1, 97, 1000, Integer.MIN_VALUE, Integer.MAX_VALUE};
        int[] counted = {16, 17, 50, 95, 96, 16, 16, 16, 96, 96, 16, 96};
        for (int i = 0; i < given.length; i++) {
            KilnHeap x = heap(given[i]);
            due("count(4) of capacity " + given[i], x.count(4), counted[i]);
            for (int word = 1; word <= counted[i]; word++) {
                x.make(0, 0, 0);
            }
            due("count(2) when filled " + given[i], x.count(2), 0);
            due("count(0) when filled " + given[i], x.count(0), counted[i]);
            x.make(0, 0, 0);
            due("count(2) after one more " + given[i], x.count(2), 1);
        }
        int[] layouts = {0, 1, -1, 7, 31, Integer.MIN_VALUE, Integer.MAX_VALUE};
        for (int layout : layouts) {
            KilnHeap x = new KilnHeap(20, layout);
            for (int register = 0; register < 8; register++) {
                due("serial(" + register + ")", x.serial(register), NULL);
            }
            for (int what = 0; what < 4; what++) {
                due("count(" + what + ")", x.count(what), 0);
            }
            due("finalized(0)", x.finalized(0), 0);
            due("list(3, 20, 1)", x.list(3, 20, 1), 6);
            due("count(0)", x.count(0), 18);
            due("read(3, 0)", x.read(3, 0), 6);
            due("read(3, 1)", x.read(3, 1), REFERENCE + 5);
        }
    }

    private static void make() {
        part = "promise 2";
        KilnHeap x = heap(96);
        int serial = 0;
        for (int kind = 0; kind <= 1; kind++) {
            for (int fields = 0; fields <= 6; fields++) {
                serial++;
                due("make(7, " + fields + ", " + kind + ")", x.make(7, fields, kind), serial);
                due("serial(7)", x.serial(7), serial);
                due("shape(7)", x.shape(7), kind * 8 + fields);
                for (int field = 0; field < fields; field++) {
                    due("read(7, " + field + ")", x.read(7, field), 0);
                }
                due("read(7, " + fields + ")", x.read(7, fields), BAD);
            }
        }
        due("make(7, -1, 0)", x.make(7, -1, 0), REFUSED);
        due("make(7, 7, 0)", x.make(7, 7, 0), REFUSED);
        due("make(7, MIN, 0)", x.make(7, Integer.MIN_VALUE, 0), REFUSED);
        due("make(7, MAX, 0)", x.make(7, Integer.MAX_VALUE, 0), REFUSED);
        due("make(7, 1, -1)", x.make(7, 1, -1), REFUSED);
        due("make(7, 1, 2)", x.make(7, 1, 2), REFUSED);
        due("make(7, 1, 3)", x.make(7, 1, 3), REFUSED);
        for (int register : NO_REGISTERS) {
            due("make(" + register + ", 1, 0)", x.make(register, 1, 0), REFUSED);
        }
        due("serial(7) after refusals", x.serial(7), 14);
        due("count(0) after refusals", x.count(0), 56);
        due("make(7, 0, 0) takes the next serial", x.make(7, 0, 0), 15);
        makeWhenFull();
        makeInUsedSlot();
    }

    private static void makeWhenFull() {
        KilnHeap x = fullHeap();
        due("make(1, 0, 0) in a full heap", x.make(1, 0, 0), FULL);
        due("count(2): the collection stays", x.count(2), 1);
        due("serial(1)", x.serial(1), NULL);
        due("make(0, 0, 0): register 0 counts as before the call", x.make(0, 0, 0), FULL);
        due("serial(0)", x.serial(0), 1);
        due("make(1, 7, 0) refused without a collection", x.make(1, 7, 0), REFUSED);
        due("make(1, 0, 2) refused without a collection", x.make(1, 0, 2), REFUSED);
        due("make(8, 0, 0) refused without a collection", x.make(8, 0, 0), REFUSED);
        due("count(2)", x.count(2), 2);
        x.put(0, 1, 0);
        due("make(1, 2, 0): 14 + 3 are too many", x.make(1, 2, 0), FULL);
        due("count(0): the collection stays", x.count(0), 14);
        due("make(1, 1, 0): 14 + 2 fit", x.make(1, 1, 0), 4);
        due("count(2): none was needed", x.count(2), 3);
        due("count(0)", x.count(0), 16);
    }

    private static void makeInUsedSlot() {
        KilnHeap x = heap(16);
        x.make(0, 3, 0);
        x.put(0, 0, 77);
        x.link(0, 1, 0);
        x.link(0, 2, 7);
        x.clear(0);
        x.collect();
        due("make(0, 3, 1) after a collection", x.make(0, 3, 1), 2);
        for (int field = 0; field < 3; field++) {
            due("read(0, " + field + ") of it", x.read(0, field), 0);
        }
        due("load(1, 0, 1) of it", x.load(1, 0, 1), REFUSED);
        due("shape(0) of it", x.shape(0), 11);
    }

    private static void weak() {
        part = "promise 3";
        KilnHeap x = heap(20);
        x.make(0, 1, 1);
        due("weak(1, 0)", x.weak(1, 0), 2);
        due("shape(1)", x.shape(1), 17);
        due("read(1, 0)", x.read(1, 0), REFERENCE + 1);
        due("weak(2, 5) of null", x.weak(2, 5), 3);
        due("read(2, 0)", x.read(2, 0), NOTHING);
        due("weak(0, 0): the target is what the register held", x.weak(0, 0), 4);
        due("read(0, 0)", x.read(0, 0), REFERENCE + 1);
        due("count(1): no weak field reaches", x.count(1), 6);
        due("count(0)", x.count(0), 8);
        due("read(1, 0) before the collection", x.read(1, 0), REFERENCE + 1);
        due("collect()", x.collect(), 6);
        due("read(0, 0) after it", x.read(0, 0), NOTHING);
        due("read(1, 0) after it", x.read(1, 0), NOTHING);
        due("finalized(0)", x.finalized(0), 1);
        for (int register : NO_REGISTERS) {
            due("weak(" + register + ", 0)", x.weak(register, 0), REFUSED);
            due("weak(0, " + register + ")", x.weak(0, register), REFUSED);
        }
        due("count(0) after refusals", x.count(0), 6);
        due("weak(3, 0) of a weak one", x.weak(3, 0), 5);
        due("read(3, 0)", x.read(3, 0), REFERENCE + 4);
        weakWhenFull();
        weakComesBack();
        weakFieldsStay();
    }

    private static void weakWhenFull() {
        KilnHeap x = fullHeap();
        due("weak(1, 0) in a full heap", x.weak(1, 0), FULL);
        due("serial(1)", x.serial(1), NULL);
        due("count(2)", x.count(2), 1);
        due("weak(1, 8) refused without a collection", x.weak(1, 8), REFUSED);
        due("count(2)", x.count(2), 1);
        x.put(0, 1, 0);
        due("weak(0, 0): its target stays through the collection", x.weak(0, 0), 4);
        due("count(2)", x.count(2), 2);
        due("read(0, 0)", x.read(0, 0), REFERENCE + 1);
        due("count(0)", x.count(0), 16);
        due("count(1)", x.count(1), 2);
    }

    private static void weakComesBack() {
        KilnHeap x = heap(30);
        x.list(0, 3, 10);
        x.weak(1, 0);
        x.clear(0);
        due("count(1) while only the weak one refers", x.count(1), 2);
        due("load(2, 1, 0)", x.load(2, 1, 0), 0);
        due("count(1) after the load", x.count(1), 11);
        due("collect()", x.collect(), 11);
        due("read(2, 0)", x.read(2, 0), 12);
        due("read(1, 0)", x.read(1, 0), REFERENCE + 3);
    }

    private static void weakFieldsStay() {
        KilnHeap x = heap(30);
        x.make(0, 1, 0);
        x.make(1, 0, 0);
        x.weak(2, 0);
        x.weak(3, 1);
        x.clear(1);
        x.link(0, 0, 3);
        x.clear(3);
        due("collect()", x.collect(), 6);
        due("read(2, 0): its target stayed", x.read(2, 0), REFERENCE + 1);
        x.load(4, 0, 0);
        due("read(4, 0): its target went", x.read(4, 0), NOTHING);
        due("make(5, 0, 0) where the target was", x.make(5, 0, 0), 5);
        due("read(4, 0): null from then on", x.read(4, 0), NOTHING);
    }

    private static void list() {
        part = "promise 4";
        KilnHeap x = heap(96);
        due("list(4, 0, 9)", x.list(4, 0, 9), 0);
        due("serial(4)", x.serial(4), NULL);
        due("list(4, 20, 100)", x.list(4, 20, 100), 20);
        due("count(0)", x.count(0), 60);
        for (int j = 19; j >= 0; j--) {
            due("serial(4)", x.serial(4), j + 1);
            due("shape(4)", x.shape(4), 2);
            due("read(4, 0)", x.read(4, 0), 100 + j);
            due("read(4, 1)", x.read(4, 1), j == 0 ? NOTHING : REFERENCE + j);
            due("load(4, 4, 1)", x.load(4, 4, 1), 0);
        }
        due("serial(4) at the end", x.serial(4), NULL);
        int[] noCounts = {-1, 21, Integer.MIN_VALUE, Integer.MAX_VALUE};
        for (int count : noCounts) {
            due("list(4, " + count + ", 0)", x.list(4, count, 0), REFUSED);
        }
        for (int register : NO_REGISTERS) {
            due("list(" + register + ", 1, 0)", x.list(register, 1, 0), REFUSED);
            due("list(" + register + ", 0, 0)", x.list(register, 0, 0), REFUSED);
        }
        due("count(0) after refusals", x.count(0), 60);
        x.make(5, 6, 1);
        due("list(5, 2, MAX)", x.list(5, 2, Integer.MAX_VALUE), 2);
        due("read(5, 0) wraps", x.read(5, 0), Integer.MIN_VALUE);
        x.load(5, 5, 1);
        due("read(5, 0)", x.read(5, 0), Integer.MAX_VALUE);
        due("read(5, 1): what the register held before", x.read(5, 1), REFERENCE + 21);
        listWhenFull();
    }

    private static void listWhenFull() {
        KilnHeap x = fullHeap();
        due("list(1, 3, 0) in a full heap", x.list(1, 3, 0), 0);
        due("serial(1)", x.serial(1), NULL);
        due("count(2): ends with the first that can't be made", x.count(2), 1);
        due("list(1, 0, 0) makes none and collects nothing", x.list(1, 0, 0), 0);
        due("list(1, 21, 0) refused without a collection", x.list(1, 21, 0), REFUSED);
        due("count(2)", x.count(2), 1);
        x.put(0, 0, 0);
        due("list(1, 20, 5)", x.list(1, 20, 5), 2);
        due("count(2)", x.count(2), 3);
        due("read(1, 0)", x.read(1, 0), 6);
        due("read(1, 1)", x.read(1, 1), REFERENCE + 4);
        due("serial(1)", x.serial(1), 5);
    }

    private static void put() {
        part = "promise 5";
        KilnHeap x = heap(40);
        x.make(0, 6, 0);
        int[] values = {1, -1, -2, 0, Integer.MAX_VALUE, Integer.MIN_VALUE};
        for (int field = 0; field < 6; field++) {
            due("put(0, " + field + ", ..)", x.put(0, field, values[field]), 0);
        }
        for (int field = 0; field < 6; field++) {
            due("read(0, " + field + ")", x.read(0, field), values[field]);
        }
        x.make(1, 1, 1);
        due("put(1, 0, 8) of a finalizable one", x.put(1, 0, 8), 0);
        due("read(1, 0)", x.read(1, 0), 8);
        x.link(1, 0, 0);
        due("put(1, 0, 0) over a reference", x.put(1, 0, 0), 0);
        due("read(1, 0)", x.read(1, 0), 0);
        x.clear(0);
        due("count(1): the reference is gone", x.count(1), 2);
        x.weak(2, 1);
        due("put(2, 0, 5) of a weak one", x.put(2, 0, 5), REFUSED);
        due("put(2, 1, 5) of a weak one", x.put(2, 1, 5), REFUSED);
        due("read(2, 0)", x.read(2, 0), REFERENCE + 2);
        due("put(1, 1, 5)", x.put(1, 1, 5), REFUSED);
        due("put(1, -1, 5)", x.put(1, -1, 5), REFUSED);
        due("put(1, MIN, 5)", x.put(1, Integer.MIN_VALUE, 5), REFUSED);
        due("put(1, MAX, 5)", x.put(1, Integer.MAX_VALUE, 5), REFUSED);
        x.make(3, 0, 0);
        due("put(3, 0, 5) without fields", x.put(3, 0, 5), REFUSED);
        due("put(4, 0, 5)", x.put(4, 0, 5), NULL);
        due("put(4, 9, 5): null comes before the field", x.put(4, 9, 5), NULL);
        for (int register : NO_REGISTERS) {
            due("put(" + register + ", 0, 5)", x.put(register, 0, 5), REFUSED);
        }
        due("read(1, 0) after refusals", x.read(1, 0), 0);
    }

    private static void link() {
        part = "promise 6";
        KilnHeap x = heap(40);
        x.make(0, 2, 0);
        x.make(1, 1, 1);
        due("link(0, 0, 1)", x.link(0, 0, 1), 0);
        due("read(0, 0)", x.read(0, 0), REFERENCE + 2);
        due("read(0, 1)", x.read(0, 1), 0);
        due("link(0, 1, 0) to itself", x.link(0, 1, 0), 0);
        due("read(0, 1)", x.read(0, 1), REFERENCE + 1);
        due("link(0, 1, 7) of null", x.link(0, 1, 7), 0);
        due("read(0, 1)", x.read(0, 1), NOTHING);
        due("link(1, 0, 0) of a finalizable one", x.link(1, 0, 0), 0);
        x.clear(0);
        due("count(1): reachable through the finalizable one", x.count(1), 5);
        x.weak(2, 1);
        due("link(2, 0, 2) of a weak one", x.link(2, 0, 2), REFUSED);
        due("link(2, 1, 2) of a weak one", x.link(2, 1, 2), REFUSED);
        due("link(2, 0, 7) of a weak one", x.link(2, 0, 7), REFUSED);
        due("read(2, 0)", x.read(2, 0), REFERENCE + 2);
        due("link(1, 1, 1)", x.link(1, 1, 1), REFUSED);
        due("link(1, -1, 1)", x.link(1, -1, 1), REFUSED);
        due("link(1, MAX, 1)", x.link(1, Integer.MAX_VALUE, 1), REFUSED);
        due("link(4, 0, 1)", x.link(4, 0, 1), NULL);
        due("link(4, 9, 1): null comes before the field", x.link(4, 9, 1), NULL);
        for (int register : NO_REGISTERS) {
            due("link(" + register + ", 0, 1)", x.link(register, 0, 1), REFUSED);
            due("link(1, 0, " + register + ")", x.link(1, 0, register), REFUSED);
            due("link(4, 0, " + register + "): registers come first", x.link(4, 0, register), REFUSED);
        }
        due("read(1, 0) after refusals", x.read(1, 0), REFERENCE + 1);
    }

    private static void load() {
        part = "promise 7";
        KilnHeap x = heap(40);
        x.make(0, 3, 0);
        x.make(1, 0, 1);
        x.link(0, 1, 1);
        x.link(0, 2, 7);
        due("load(2, 0, 1)", x.load(2, 0, 1), 0);
        due("serial(2)", x.serial(2), 2);
        due("load(2, 0, 0) of an int", x.load(2, 0, 0), REFUSED);
        due("serial(2) stays", x.serial(2), 2);
        due("load(2, 0, 2) of null", x.load(2, 0, 2), 0);
        due("serial(2)", x.serial(2), NULL);
        due("read(0, 1): the field stays", x.read(0, 1), REFERENCE + 2);
        due("load(2, 0, 3)", x.load(2, 0, 3), REFUSED);
        due("load(2, 0, -1)", x.load(2, 0, -1), REFUSED);
        due("load(2, 0, MAX)", x.load(2, 0, Integer.MAX_VALUE), REFUSED);
        due("load(0, 4, 0)", x.load(0, 4, 0), NULL);
        due("load(0, 4, 9): null comes before the field", x.load(0, 4, 9), NULL);
        for (int register : NO_REGISTERS) {
            due("load(" + register + ", 0, 1)", x.load(register, 0, 1), REFUSED);
            due("load(2, " + register + ", 1)", x.load(2, register, 1), REFUSED);
            due("load(" + register + ", 4, 0): registers come first", x.load(register, 4, 0), REFUSED);
        }
        x.weak(3, 1);
        due("load(5, 3, 0) of a weak one", x.load(5, 3, 0), 0);
        due("serial(5)", x.serial(5), 2);
        x.weak(3, 7);
        due("load(5, 3, 0) of an empty weak one", x.load(5, 3, 0), 0);
        due("serial(5)", x.serial(5), NULL);
        due("load(0, 0, 1) into its own register", x.load(0, 0, 1), 0);
        due("serial(0)", x.serial(0), 2);
    }

    private static void copy() {
        part = "promise 8";
        KilnHeap x = heap(40);
        x.make(0, 1, 0);
        x.make(1, 2, 1);
        due("copy(2, 1)", x.copy(2, 1), 2);
        due("serial(2)", x.serial(2), 2);
        due("serial(1)", x.serial(1), 2);
        x.put(2, 0, 44);
        due("read(1, 0): the same object", x.read(1, 0), 44);
        due("copy(0, 0)", x.copy(0, 0), 1);
        due("serial(0)", x.serial(0), 1);
        due("copy(0, 5) of null", x.copy(0, 5), NULL);
        due("serial(0) stays", x.serial(0), 1);
        for (int register : NO_REGISTERS) {
            due("copy(" + register + ", 0)", x.copy(register, 0), REFUSED);
            due("copy(0, " + register + ")", x.copy(0, register), REFUSED);
            due("copy(" + register + ", 5): registers come first", x.copy(register, 5), REFUSED);
        }
        due("serial(0) after refusals", x.serial(0), 1);
        x.clear(1);
        due("collect(): register 2 still refers", x.collect(), 5);
    }

    private static void clear() {
        part = "promise 9";
        KilnHeap x = heap(40);
        for (int register = 0; register < 8; register++) {
            x.make(register, 0, 0);
        }
        for (int register : NO_REGISTERS) {
            due("clear(" + register + ")", x.clear(register), REFUSED);
        }
        due("count(1) after refusals", x.count(1), 8);
        for (int register = 0; register < 8; register++) {
            due("clear(" + register + ")", x.clear(register), 0);
            due("serial(" + register + ")", x.serial(register), NULL);
            due("count(1)", x.count(1), 7 - register);
        }
        due("clear(0) of null", x.clear(0), 0);
        due("count(0): they exist until a collection", x.count(0), 8);
    }

    private static void read() {
        part = "promise 10";
        KilnHeap x = heap(40);
        x.make(0, 3, 0);
        x.put(0, 0, -2);
        x.link(0, 1, 0);
        x.link(0, 2, 3);
        due("read(0, 0)", x.read(0, 0), -2);
        due("read(0, 1)", x.read(0, 1), REFERENCE + 1);
        due("read(0, 2)", x.read(0, 2), NOTHING);
        due("read(0, 3)", x.read(0, 3), BAD);
        due("read(0, -1)", x.read(0, -1), BAD);
        due("read(0, MIN)", x.read(0, Integer.MIN_VALUE), BAD);
        due("read(0, MAX)", x.read(0, Integer.MAX_VALUE), BAD);
        due("read(1, 0) of null", x.read(1, 0), BAD);
        for (int register : NO_REGISTERS) {
            due("read(" + register + ", 0)", x.read(register, 0), BAD);
        }
        x.weak(1, 0);
        due("read(1, 0) of a weak one", x.read(1, 0), REFERENCE + 1);
        due("read(1, 1) of a weak one", x.read(1, 1), BAD);
        x.make(2, 0, 1);
        due("read(2, 0) without fields", x.read(2, 0), BAD);
    }

    private static void serial() {
        part = "promise 11";
        KilnHeap x = heap(16);
        x.make(0, 2, 0);
        x.weak(1, 0);
        x.list(2, 2, 0);
        due("serial(0)", x.serial(0), 1);
        due("serial(1)", x.serial(1), 2);
        due("serial(2)", x.serial(2), 4);
        due("serial(3)", x.serial(3), NULL);
        for (int register : NO_REGISTERS) {
            due("serial(" + register + ")", x.serial(register), REFUSED);
        }
        x.clear(0);
        x.collect();
        due("serial(2) stays through a collection", x.serial(2), 4);
        x.make(6, 6, 0);
        due("make(7, 6, 0) FULL takes no serial", x.make(7, 6, 0), FULL);
        x.clear(6);
        due("make(7, 0, 0)", x.make(7, 0, 0), 6);
        due("serial(7): none is used twice", x.serial(7), 6);
    }

    private static void shape() {
        part = "promise 12";
        KilnHeap x = heap(96);
        for (int fields = 0; fields <= 6; fields++) {
            x.make(0, fields, 0);
            due("shape(0) plain " + fields, x.shape(0), fields);
            x.make(1, fields, 1);
            due("shape(1) finalizable " + fields, x.shape(1), 8 + fields);
        }
        x.weak(2, 0);
        due("shape(2) weak", x.shape(2), 17);
        x.list(3, 1, 0);
        due("shape(3) of a list", x.shape(3), 2);
        due("shape(4)", x.shape(4), NULL);
        for (int register : NO_REGISTERS) {
            due("shape(" + register + ")", x.shape(register), REFUSED);
        }
        x.collect();
        due("shape(1) after a collection", x.shape(1), 14);
    }

    private static void collect() {
        part = "promise 13";
        KilnHeap x = heap(60);
        due("collect() of nothing", x.collect(), 0);
        x.list(0, 5, 0);
        due("collect() keeps what is reachable", x.collect(), 15);
        x.load(1, 0, 1);
        x.clear(0);
        due("collect() takes the head alone", x.collect(), 12);
        due("read(1, 0)", x.read(1, 0), 3);
        due("read(1, 1)", x.read(1, 1), REFERENCE + 3);
        x.clear(1);
        x.make(2, 2, 0);
        x.make(3, 2, 1);
        x.link(2, 0, 3);
        x.link(3, 1, 2);
        x.clear(3);
        due("collect() keeps a ring", x.collect(), 6);
        x.clear(2);
        due("collect() takes a ring", x.collect(), 0);
        due("finalized(0)", x.finalized(0), 7);
        x.make(4, 6, 0);
        x.make(5, 0, 0);
        x.link(4, 5, 5);
        x.clear(5);
        due("collect() follows the last field", x.collect(), 8);
        due("count(2)", x.count(2), 6);
        weakHoldsNothing();
        afterLongUse();
    }

    private static void weakHoldsNothing() {
        KilnHeap x = heap(60);
        x.make(0, 1, 1);
        x.weak(1, 0);
        x.link(0, 0, 1);
        x.clear(0);
        due("collect(): a weak field keeps nothing", x.collect(), 2);
        x.weak(2, 1);
        x.make(3, 1, 0);
        x.link(3, 0, 1);
        x.clear(1);
        due("collect(): the inner weak one is held by a plain one", x.collect(), 6);
        due("read(2, 0)", x.read(2, 0), REFERENCE + 2);
        x.clear(3);
        due("collect(): no weak one holds a weak one", x.collect(), 2);
        due("read(2, 0)", x.read(2, 0), NOTHING);
    }

    private static void afterLongUse() {
        KilnHeap x = heap(96);
        for (int round = 1; round <= 96; round++) {
            x.make(0, 0, 0);
        }
        due("collect() of 96 objects", x.collect(), 1);
        x.clear(0);
        due("list(0, 20, 0)", x.list(0, 20, 0), 20);
        // The last one of the 96 fills the heap's last place until the collection before the twelfth.
        due("list(0, 20, 20)", x.list(0, 20, 20), 12);
        due("count(2)", x.count(2), 3);
        due("count(1)", x.count(1), 96);
        due("collect()", x.collect(), 96);
        due("read(0, 0)", x.read(0, 0), 31);
        due("read(0, 1)", x.read(0, 1), REFERENCE + 127);
    }

    private static void count() {
        part = "promise 14";
        KilnHeap x = heap(33);
        x.list(0, 4, 0);
        x.make(1, 6, 1);
        x.clear(1);
        due("count(0)", x.count(0), 19);
        due("count(1)", x.count(1), 12);
        due("count(2)", x.count(2), 0);
        due("count(3)", x.count(3), 0);
        due("count(4)", x.count(4), 33);
        due("count(0): count(1) takes nothing away", x.count(0), 19);
        x.collect();
        due("count(0)", x.count(0), 12);
        due("count(1)", x.count(1), 12);
        due("count(2)", x.count(2), 1);
        due("count(3)", x.count(3), 1);
        x.list(2, 20, 0);
        due("count(0)", x.count(0), 33);
        due("count(2): a making may collect", x.count(2), 2);
        int[] noWhats = {-1, 5, 6, Integer.MIN_VALUE, Integer.MAX_VALUE};
        for (int what : noWhats) {
            due("count(" + what + ")", x.count(what), REFUSED);
        }
        countShared();
    }

    private static void countShared() {
        KilnHeap x = heap(33);
        x.make(0, 2, 0);
        x.make(1, 0, 0);
        x.link(0, 0, 1);
        x.link(0, 1, 1);
        x.copy(2, 1);
        due("count(1): each object once", x.count(1), 4);
        x.make(3, 1, 0);
        x.link(3, 0, 0);
        x.clear(3);
        x.clear(0);
        due("count(1): an unreachable one reaches nothing", x.count(1), 1);
        due("count(0)", x.count(0), 6);
    }

    private static void finalized() {
        part = "promise 15";
        KilnHeap x = heap(96);
        due("finalized(0) of none", x.finalized(0), 0);
        for (int serial = 1; serial <= 9; serial++) {
            x.make(0, 0, serial % 2);
        }
        due("finalized(0): none before the collection", x.finalized(0), 0);
        x.collect();
        due("count(3)", x.count(3), 4);
        for (int back = 0; back < 4; back++) {
            due("finalized(" + back + ")", x.finalized(back), 7 - 2 * back);
        }
        due("finalized(4)", x.finalized(4), 0);
        due("finalized(15)", x.finalized(15), 0);
        due("finalized(-1)", x.finalized(-1), 0);
        due("finalized(MIN)", x.finalized(Integer.MIN_VALUE), 0);
        due("finalized(MAX)", x.finalized(Integer.MAX_VALUE), 0);
        for (int made = 0; made < 20; made++) {
            x.make(0, 0, 1);
        }
        x.clear(0);
        x.collect();
        due("count(3): longer than what can be asked for", x.count(3), 25);
        for (int back = 0; back <= 15; back++) {
            due("finalized(" + back + ")", x.finalized(back), 29 - back);
        }
        due("finalized(16): only 0 .. 15", x.finalized(16), 0);
        due("finalized(-1)", x.finalized(-1), 0);
        finalizedAscending();
        finalizedOnce();
        finalizedAllAtOnce();
    }

    /** The places of old objects are free again here, so that memory order and serial order can differ. */
    private static void finalizedAscending() {
        KilnHeap x = heap(16);
        for (int register = 0; register < 8; register++) {
            x.make(register, 1, 1);
        }
        for (int register = 0; register < 8; register += 2) {
            x.clear(register);
        }
        x.collect();
        int[] first = {7, 5, 3, 1};
        for (int back = 0; back < 4; back++) {
            due("finalized(" + back + ")", x.finalized(back), first[back]);
        }
        for (int register = 6; register >= 0; register -= 2) {
            x.make(register, 1, 1);
        }
        for (int register = 0; register < 8; register++) {
            x.clear(register);
        }
        x.collect();
        int[] all = {12, 11, 10, 9, 8, 6, 4, 2, 7, 5, 3, 1, 0};
        for (int back = 0; back < all.length; back++) {
            due("finalized(" + back + ") of two collections", x.finalized(back), all[back]);
        }
    }

    private static void finalizedOnce() {
        KilnHeap x = heap(16);
        x.make(0, 0, 1);
        x.weak(1, 0);
        x.clear(0);
        x.load(0, 1, 0);
        x.collect();
        due("count(3): it came back before the collection", x.count(3), 0);
        x.clear(0);
        due("count(3): it exists still", x.count(3), 0);
        for (int made = 0; made < 5; made++) {
            x.make(2, 5, 0);
        }
        due("count(3): a making's collection counts", x.count(3), 1);
        x.collect();
        due("count(3): once only", x.count(3), 1);
        due("finalized(0)", x.finalized(0), 1);
    }

    private static void finalizedAllAtOnce() {
        KilnHeap x = heap(96);
        for (int made = 0; made < 96; made++) {
            x.make(0, 0, 1);
        }
        x.clear(0);
        due("collect() of 96 finalizable ones", x.collect(), 0);
        due("count(3)", x.count(3), 96);
        due("finalized(0)", x.finalized(0), 96);
        due("finalized(15)", x.finalized(15), 81);
    }

    private static void constants() {
        part = "the constants";
        due("REFUSED", KilnHeap.REFUSED, REFUSED);
        due("NULL", KilnHeap.NULL, NULL);
        due("FULL", KilnHeap.FULL, FULL);
        due("REFERENCE", KilnHeap.REFERENCE, REFERENCE);
        due("NOTHING", KilnHeap.NOTHING, NOTHING);
        due("BAD", KilnHeap.BAD, BAD);
    }

    public static void main(String[] args) {
        run(KilnHeapPromises::constants);
        run(KilnHeapPromises::newObject);
        run(KilnHeapPromises::make);
        run(KilnHeapPromises::weak);
        run(KilnHeapPromises::list);
        run(KilnHeapPromises::put);
        run(KilnHeapPromises::link);
        run(KilnHeapPromises::load);
        run(KilnHeapPromises::copy);
        run(KilnHeapPromises::clear);
        run(KilnHeapPromises::read);
        run(KilnHeapPromises::serial);
        run(KilnHeapPromises::shape);
        run(KilnHeapPromises::collect);
        run(KilnHeapPromises::count);
        run(KilnHeapPromises::finalized);
        end();
    }
}
