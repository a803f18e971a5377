/** One method for each sentence of "What it is" and "Terms" that names a boundary case; no heap gets over 512 calls. */
public final class KilnHeapTermsEdges extends HeapTest {
    private static void used512Calls() {
        part = "An object is used for at most 512 calls after it has been made";
        KilnHeap x = heap(96);
        for (int call = 1; call <= 511; call++) {
            due("make no. " + call, x.make(call % 8, 0, 1), call);
        }
        due("the 512th call", x.make(0, 6, 1), 512);
        KilnHeap lists = heap(60);
        for (int round = 1; round <= 254; round++) {
            lists.list(0, 20, round);
            lists.clear(0);
        }
        due("list(0, 20, 0) after 254 others", lists.list(0, 20, 0), 20);
        due("serial(0) of the 5100th object", lists.serial(0), 5100);
        due("read(0, 1)", lists.read(0, 1), REFERENCE + 5099);
        due("the 512th call", lists.count(2), 254);
        KilnHeap finals = heap(96);
        for (int call = 1; call <= 509; call++) {
            finals.make(0, 0, 1);
        }
        due("collect()", finals.collect(), 1);
        due("count(3)", finals.count(3), 508);
        due("finalized(15), the 512th call", finals.finalized(15), 493);
    }

    private static void firstSerial() {
        part = "An OBJECT has a serial number (1 for the first made, 2 for the next ..)";
        due("make(0, 0, 0), the first", heap(16).make(0, 0, 0), 1);
        due("make(7, 6, 1), the first", heap(16).make(7, 6, 1), 1);
        due("weak(0, 0), the first", heap(16).weak(0, 0), 1);
        KilnHeap x = heap(16);
        x.list(0, 2, 0);
        due("serial(0) of a first list", x.serial(0), 2);
        due("make(1, 0, 0), the next", x.make(1, 0, 0), 3);
        due("weak(2, 1), the next", x.weak(2, 1), 4);
        x.make(3, 7, 0);
        x.list(3, 21, 0);
        x.weak(3, 8);
        due("make(3, 0, 0): a refused call takes no number", x.make(3, 0, 0), 5);
        due("make(4, 6, 0)", x.make(4, 6, 0), FULL);
        x.clear(0);
        due("make(4, 5, 0): FULL takes no number", x.make(4, 5, 0), 6);
        for (int register = 0; register < 8; register++) {
            x.clear(register);
        }
        x.collect();
        due("make(0, 0, 0): no number comes again in an emptied heap", x.make(0, 0, 0), 7);
    }

    private static void fewestAndMostFields() {
        part = "a list of 0 .. 6 FIELDS";
        for (int kind = 0; kind <= 1; kind++) {
            KilnHeap x = heap(16);
            due("make(0, 0, " + kind + ")", x.make(0, 0, kind), 1);
            due("make(1, 6, " + kind + ")", x.make(1, 6, kind), 2);
            x.make(2, 6, kind);
            due("read(0, 0) of none", x.read(0, 0), BAD);
            for (int field = 0; field < 6; field++) {
                due("put(1, " + field + ", ..)", x.put(1, field, 100 + field), 0);
                due("put(2, " + field + ", ..)", x.put(2, field, 200 + field), 0);
            }
            for (int field = 0; field < 6; field++) {
                due("read(1, " + field + ")", x.read(1, field), 100 + field);
                due("read(2, " + field + ")", x.read(2, field), 200 + field);
            }
            due("read(1, 6)", x.read(1, 6), BAD);
        }
    }

    private static void weakHasOneField() {
        part = "2 weak (exactly one field)";
        KilnHeap x = heap(16);
        x.make(0, 6, 0);
        x.weak(1, 0);
        due("shape(1)", x.shape(1), 17);
        due("count(0)", x.count(0), 9);
        due("read(1, 0)", x.read(1, 0), REFERENCE + 1);
        due("read(1, 1)", x.read(1, 1), BAD);
        due("load(2, 1, 1)", x.load(2, 1, 1), REFUSED);
        due("read(1, -1)", x.read(1, -1), BAD);
    }

    private static void whatFieldsHold() {
        part = "A field holds an int, a reference to an object, or null.";
        KilnHeap x = heap(16);
        x.make(0, 1, 0);
        int[] values = {MIN, MAX, 0, -1, -2, -3, 1, 95, 96};
        for (int value : values) {
            x.put(0, 0, value);
            due("read(0, 0) of an int", x.read(0, 0), value);
            due("load(1, 0, 0) of the int " + value, x.load(1, 0, 0), REFUSED);
            due("count(1): an int is no reference", x.count(1), 2);
            due("collect(): an int is no reference", x.collect(), 2);
            due("read(0, 0) after the collection", x.read(0, 0), value);
            x.link(0, 0, 0);
            due("read(0, 0) of a reference", x.read(0, 0), REFERENCE + 1);
            x.link(0, 0, 1);
            due("read(0, 0) of null", x.read(0, 0), NOTHING);
            due("load(1, 0, 0) of null", x.load(1, 0, 0), 0);
        }
    }

    private static void eightRegisters() {
        part = "There are eight REGISTERS 0 .. 7, each holding a reference to an object or null.";
        KilnHeap x = heap(96);
        for (int register = 0; register < 8; register++) {
            due("serial(" + register + ") at first", x.serial(register), NULL);
            due("make(" + register + ", ..)", x.make(register, register % 7, 0), register + 1);
        }
        for (int register = 0; register < 8; register++) {
            due("serial(" + register + ")", x.serial(register), register + 1);
        }
        for (int register = 0; register < 8; register++) {
            x.copy(register, 0);
        }
        due("collect(): all eight refer to the same one", x.collect(), 1);
        for (int register = 0; register < 7; register++) {
            x.clear(register);
            due("serial(7) stays", x.serial(7), 1);
            due("collect(): register 7 refers to it", x.collect(), 1);
        }
        x.clear(7);
        due("collect(): none does", x.collect(), 0);
    }

    private static void wordsOfAnObject() {
        part = "An object has 1 + number of fields WORDS.";
        for (int fields = 0; fields <= 6; fields++) {
            KilnHeap x = heap(96);
            x.make(0, fields, fields % 2);
            due("count(0), fields: " + fields, x.count(0), 1 + fields);
            due("count(1), fields: " + fields, x.count(1), 1 + fields);
            due("collect(), fields: " + fields, x.collect(), 1 + fields);
        }
        KilnHeap weak = heap(96);
        weak.weak(0, 0);
        due("collect() with a weak one", weak.collect(), 2);
        KilnHeap list = heap(96);
        list.list(0, 20, 0);
        due("collect() with a list of 20", list.collect(), 60);
    }

    private static void reachable() {
        part = "An object is REACHABLE if a register refers to it, or a field of a reachable object that is not weak does.";
        for (int register = 0; register < 8; register++) {
            KilnHeap x = heap(20);
            x.make(register, 1, 0);
            due("count(1) from register " + register, x.count(1), 2);
            due("collect() from register " + register, x.collect(), 2);
        }
        for (int field = 0; field < 6; field++) {
            for (int kind = 0; kind <= 1; kind++) {
                KilnHeap x = heap(20);
                x.make(0, 6, kind);
                x.make(1, 0, 0);
                x.link(0, field, 1);
                x.clear(1);
                due("count(1) through field " + field, x.count(1), 8);
                due("collect() through field " + field, x.collect(), 8);
                x.put(0, field, 0);
                due("count(1) when field " + field + " is an int", x.count(1), 7);
            }
        }
        reachableThroughChains();
        reachableMost(7);
        reachableMost(0);
        reachableRings();
    }

    /** 48 objects in a row, so that the heap is full: references to older ones, then references to newer ones. */
    private static void reachableThroughChains() {
        KilnHeap back = heap(96);
        for (int i = 0; i < 48; i++) {
            back.make(1, 1, 0);
            back.link(1, 0, 0);
            back.copy(0, 1);
        }
        back.clear(1);
        due("count(1) of a chain to older ones", back.count(1), 96);
        due("collect() of a chain to older ones", back.collect(), 96);
        KilnHeap ahead = heap(96);
        ahead.make(0, 1, 0);
        ahead.copy(1, 0);
        for (int i = 1; i < 48; i++) {
            ahead.make(2, 1, 0);
            ahead.link(1, 0, 2);
            ahead.copy(1, 2);
        }
        ahead.clear(1);
        ahead.clear(2);
        due("count(1) of a chain to newer ones", ahead.count(1), 96);
        due("collect() of a chain to newer ones", ahead.collect(), 96);
        ahead.load(0, 0, 0);
        due("count(1) without the first", ahead.count(1), 94);
        due("collect() without the first", ahead.collect(), 94);
    }

    /** All registers refer to one of their own, and from one a chain fills the rest: no more than these 52 fit. */
    private static void reachableMost(int head) {
        KilnHeap x = heap(96);
        int scratch = head == 0 ? 1 : 0;
        x.make(head, 0, 0);
        for (int i = 0; i < 44; i++) {
            x.make(scratch, 1, 0);
            x.link(scratch, 0, head);
            x.copy(head, scratch);
        }
        for (int register = 0; register < 8; register++) {
            if (register != head) {
                x.make(register, 0, 0);
            }
        }
        due("count(0) of 52 objects", x.count(0), 96);
        due("count(1) of 52 objects", x.count(1), 96);
        due("collect() of 52 objects", x.collect(), 96);
        due("make(1, 0, 0) after that", x.make(1, 0, 0), FULL);
    }

    private static void reachableRings() {
        KilnHeap x = heap(30);
        x.make(0, 1, 0);
        x.link(0, 0, 0);
        due("count(1) of one that refers to itself", x.count(1), 2);
        x.make(1, 2, 0);
        x.make(2, 2, 1);
        x.link(1, 0, 2);
        x.link(1, 1, 2);
        x.link(2, 1, 1);
        x.clear(2);
        due("count(1) of a ring, each once", x.count(1), 8);
        x.clear(1);
        due("count(1): a ring alone is not reachable", x.count(1), 2);
        x.clear(0);
        due("count(1): nor is one that refers to itself", x.count(1), 0);
        due("collect()", x.collect(), 0);
    }

    private static void weakReachesNothing() {
        part = "(The field of a weak object makes nothing reachable.)";
        KilnHeap x = heap(30);
        x.make(0, 6, 0);
        x.weak(1, 0);
        x.weak(2, 1);
        x.make(3, 1, 0);
        x.link(3, 0, 2);
        x.clear(0);
        x.clear(1);
        x.clear(2);
        due("count(1): the held weak one, not its target", x.count(1), 4);
        due("collect()", x.collect(), 4);
        KilnHeap y = heap(30);
        y.make(0, 1, 0);
        y.weak(1, 0);
        y.link(0, 0, 1);
        y.clear(0);
        due("count(1): the target refers to the weak one", y.count(1), 2);
        y.clear(1);
        due("count(1): a ring with a weak one in it", y.count(1), 0);
        KilnHeap z = heap(30);
        z.make(0, 0, 0);
        z.weak(1, 0);
        due("count(1): the target has a register too", z.count(1), 3);
    }

    private static void existFromMaking() {
        part = "Objects EXIST from when they are made.";
        KilnHeap x = heap(96);
        due("count(0) before the first", x.count(0), 0);
        for (int made = 1; made <= 96; made++) {
            x.make(0, 0, 1);
            due("count(0) of unreachable ones too", x.count(0), made);
        }
        due("count(1)", x.count(1), 1);
        due("count(2): there was no collection", x.count(2), 0);
        due("count(3)", x.count(3), 0);
        x.clear(0);
        due("count(0) with none reachable", x.count(0), 96);
    }

    private static void ceaseAtCollection() {
        part = "At a COLLECTION all objects that exist and are not reachable cease to exist;";
        KilnHeap x = heap(96);
        due("collect() where none exists", x.collect(), 0);
        hold(x, 0, 96);
        due("collect() where all 96 words are reachable", x.collect(), 96);
        due("count(0)", x.count(0), 96);
        x.clear(0);
        due("collect() where none is reachable", x.collect(), 0);
        due("count(0)", x.count(0), 0);
        waste(x, 96);
        due("collect() of 96 objects, none reachable", x.collect(), 0);
        waste(x, 95);
        x.make(3, 0, 0);
        due("collect() where one of 96 is reachable", x.collect(), 1);
        due("collect() once more", x.collect(), 1);
        hold(x, 0, 95);
        due("count(2): the places of the others were free", x.count(2), 6);
        due("count(1)", x.count(1), 96);
    }

    private static void weakFieldsBecomeNull() {
        part = "each weak object that still exists and whose field refers to one that ceased to exist has null there from then on;";
        KilnHeap x = heap(20);
        x.make(0, 0, 0);
        x.make(1, 0, 1);
        x.weak(2, 0);
        x.weak(3, 0);
        x.weak(4, 1);
        x.weak(5, 7);
        x.clear(0);
        x.collect();
        due("read(2, 0)", x.read(2, 0), NOTHING);
        due("read(3, 0), the other one on it", x.read(3, 0), NOTHING);
        due("read(4, 0), whose target still exists", x.read(4, 0), REFERENCE + 2);
        due("read(5, 0), which was null", x.read(5, 0), NOTHING);
        due("make(0, 0, 0) in its place", x.make(0, 0, 0), 7);
        due("read(2, 0): null from then on", x.read(2, 0), NOTHING);
        due("load(6, 2, 0)", x.load(6, 2, 0), 0);
        due("serial(6)", x.serial(6), NULL);
        x.collect();
        due("read(2, 0) after one more collection", x.read(2, 0), NOTHING);
        due("read(4, 0) after one more collection", x.read(4, 0), REFERENCE + 2);
        x.clear(1);
        due("read(4, 0) before the collection", x.read(4, 0), REFERENCE + 2);
        waste(x, 10);
        due("count(0): the heap is full and not more", x.count(0), 20);
        due("read(4, 0) before the collection", x.read(4, 0), REFERENCE + 2);
        x.make(1, 0, 0);
        due("count(2)", x.count(2), 3);
        due("read(4, 0) after a making's collection", x.read(4, 0), NOTHING);
        weakOnWeak();
    }

    private static void weakOnWeak() {
        KilnHeap x = heap(20);
        x.make(0, 0, 0);
        x.weak(1, 0);
        x.weak(2, 1);
        x.make(3, 1, 0);
        x.link(3, 0, 2);
        x.clear(2);
        x.clear(1);
        x.collect();
        x.load(4, 3, 0);
        due("read(4, 0) of one held by a field, its weak target gone", x.read(4, 0), NOTHING);
        due("count(0)", x.count(0), 5);
        x.weak(5, 0);
        x.weak(6, 5);
        x.clear(0);
        x.collect();
        due("read(6, 0), whose weak target exists", x.read(6, 0), REFERENCE + 5);
        due("read(5, 0), whose target doesn't", x.read(5, 0), NOTHING);
    }

    private static void finalListAscending() {
        part = "of the finalizable ones that ceased to exist the serial numbers are added to the FINAL LIST, in ascending order.";
        KilnHeap x = heap(16);
        for (int register = 0; register < 8; register++) {
            x.make(register, 0, 1);
        }
        x.clear(5);
        x.clear(1);
        x.collect();
        due("finalized(0), cleared first", x.finalized(0), 6);
        due("finalized(1), cleared last", x.finalized(1), 2);
        due("finalized(2): the reachable ones are not there", x.finalized(2), 0);
        x.make(1, 0, 1);
        x.make(5, 0, 0);
        x.weak(6, 0);
        for (int register = 7; register >= 0; register--) {
            x.clear(register);
        }
        x.collect();
        due("count(3): no plain and no weak one", x.count(3), 9);
        int[] due = {9, 8, 7, 5, 4, 3, 1, 6, 2, 0};
        for (int back = 0; back < due.length; back++) {
            due("finalized(" + back + ")", x.finalized(back), due[back]);
        }
        x.collect();
        due("count(3): none is added twice", x.count(3), 9);
        KilnHeap none = heap(16);
        none.make(0, 0, 0);
        none.weak(0, 0);
        none.clear(0);
        none.collect();
        due("count(3) without finalizable ones", none.count(3), 0);
        KilnHeap many = heap(96);
        for (int i = 0; i < 96; i++) {
            many.make(0, 0, 1);
        }
        many.clear(0);
        many.collect();
        due("count(3) of 96 at once", many.count(3), 96);
        for (int back = 0; back <= 15; back++) {
            due("finalized(" + back + ") of 96 at once", many.finalized(back), 96 - back);
        }
    }

    private static void reachableAgain() {
        part = "(An object that exists but is not reachable may become reachable again, through a weak one.)";
        KilnHeap x = heap(20);
        x.make(0, 2, 1);
        x.make(1, 1, 1);
        x.put(0, 0, 42);
        x.link(0, 1, 1);
        x.put(1, 0, 43);
        x.weak(2, 0);
        x.clear(0);
        x.clear(1);
        waste(x, 13);
        due("count(0): full and not more", x.count(0), 20);
        due("count(1)", x.count(1), 2);
        due("load(5, 2, 0)", x.load(5, 2, 0), 0);
        due("serial(5)", x.serial(5), 1);
        due("shape(5)", x.shape(5), 10);
        due("count(1): with what it refers to", x.count(1), 7);
        due("collect()", x.collect(), 7);
        due("count(3): neither is final", x.count(3), 0);
        due("read(5, 0)", x.read(5, 0), 42);
        due("read(5, 1)", x.read(5, 1), REFERENCE + 2);
        due("read(2, 0)", x.read(2, 0), REFERENCE + 1);
        x.load(6, 5, 1);
        due("read(6, 0)", x.read(6, 0), 43);
        KilnHeap y = heap(20);
        y.make(0, 0, 0);
        y.weak(1, 0);
        y.weak(1, 1);
        y.clear(0);
        due("load(2, 1, 0) of a weak one", y.load(2, 1, 0), 0);
        due("load(3, 2, 0) of its target", y.load(3, 2, 0), 0);
        due("serial(3)", y.serial(3), 1);
        y.clear(1);
        due("collect(): the first two are back", y.collect(), 3);
    }

    private static void collectionBeforeMaking() {
        part = "if the words of all existing objects and its own would together be more than CAPACITY, there is a collection first;";
        int[] capacities = {16, 17, 30, 95, 96};
        for (int capacity : capacities) {
            for (int fields = 0; fields <= 6; fields++) {
                int most = fields;
                makingAtEdge("make(0, " + fields + ", 0) in " + capacity, capacity, 1 + fields, x -> x.make(0, most, 0));
                makingAtEdge("make(0, " + fields + ", 1) in " + capacity, capacity, 1 + fields, x -> x.make(0, most, 1));
            }
            makingAtEdge("weak(0, 0) in " + capacity, capacity, 2, x -> x.weak(0, 0));
            makingAtEdge("list(0, 1, 0) in " + capacity, capacity, 3, x -> x.list(0, 1, 0));
            makingAtEdge("list(0, 4, 0) in " + capacity, capacity, 12, x -> x.list(0, 4, 0));
        }
        KilnHeap x = heap(20);
        waste(x, 10);
        x.list(0, 5, 0);
        due("count(2): a list collects for the one that is too many", x.count(2), 1);
        due("count(0): the three before it stay", x.count(0), 15);
        due("read(0, 1)", x.read(0, 1), REFERENCE + 14);
        waste(x, 5);
        due("count(2): the heap is full and not more", x.count(2), 1);
        x.weak(1, 0);
        due("count(2): reachable and unreachable words count alike", x.count(2), 2);
        due("count(0)", x.count(0), 17);
    }

    /** The call makes so many words: once where they just fit beside garbage, once where they are one too many. */
    private static void makingAtEdge(String text, int capacity, int words, Call call) {
        KilnHeap fits = heap(capacity);
        waste(fits, capacity - words);
        call.on(fits);
        due("count(2) where it fits, " + text, fits.count(2), 0);
        due("count(0) where it fits, " + text, fits.count(0), capacity);
        KilnHeap over = heap(capacity);
        waste(over, capacity - words + 1);
        call.on(over);
        due("count(2) where it is one too many, " + text, over.count(2), 1);
        due("count(0) where it is one too many, " + text, over.count(0), words);
    }

    private static void full() {
        part = "if they are still more, it can't be made: FULL (the collection stays).";
        int[] capacities = {16, 17, 30, 95, 96};
        for (int capacity : capacities) {
            for (int fields = 0; fields <= 6; fields++) {
                int most = fields;
                fullAtEdge("make(1, " + fields + ", 0) in " + capacity, capacity, 1 + fields, x -> x.make(1, most, 0));
                fullAtEdge("make(1, " + fields + ", 1) in " + capacity, capacity, 1 + fields, x -> x.make(1, most, 1));
            }
            fullAtEdge("weak(1, 0) in " + capacity, capacity, 2, x -> x.weak(1, 0));
            fullAtEdge("weak(1, 5) in " + capacity, capacity, 2, x -> x.weak(1, 5));
        }
        collectionStays();
    }

    private static void fullAtEdge(String text, int capacity, int words, Call call) {
        KilnHeap over = heap(capacity);
        hold(over, 0, capacity - words + 1);
        int last = over.serial(0);
        due(text + " where it is one too many", call.on(over), FULL);
        due("count(2) after " + text, over.count(2), 1);
        due("count(0) after " + text, over.count(0), capacity - words + 1);
        due("serial(1) after " + text, over.serial(1), NULL);
        due("serial(0) after " + text, over.serial(0), last);
        over.clear(0);
        due(text + " takes the number that was left", call.on(over), last + 1);
        KilnHeap fits = heap(capacity);
        hold(fits, 0, capacity - words);
        due(text + " where it fits", call.on(fits), fits.serial(0) + 1);
        due("count(2) where it fits, " + text, fits.count(2), 0);
        due("count(1) where it fits, " + text, fits.count(1), capacity);
    }

    private static void collectionStays() {
        KilnHeap x = heap(20);
        hold(x, 0, 15);
        x.make(1, 0, 1);
        x.weak(2, 1);
        x.clear(1);
        due("make(3, 6, 0)", x.make(3, 6, 0), FULL);
        due("count(0): the unreachable one is gone", x.count(0), 17);
        due("count(2)", x.count(2), 1);
        due("count(3)", x.count(3), 1);
        due("finalized(0)", x.finalized(0), 6);
        due("read(2, 0)", x.read(2, 0), NOTHING);
        due("make(3, 6, 0) again", x.make(3, 6, 0), FULL);
        due("count(2): each try is a collection", x.count(2), 2);
        due("make(3, 2, 0) fits", x.make(3, 2, 0), 8);
        due("count(2)", x.count(2), 2);
        due("weak(4, 4)", x.weak(4, 4), FULL);
        due("list(4, 1, 0): a list has its own answer", x.list(4, 1, 0), 0);
        due("count(2)", x.count(2), 4);
    }

    private static void registersBeforeTheCall() {
        part = "The registers count as they are before the call.";
        for (int register = 0; register < 8; register++) {
            KilnHeap x = heap(16);
            hold(x, register, 16);
            due("make over what fills the heap", x.make(register, 0, 0), FULL);
            due("make over what fills the heap", x.make(register, 6, 1), FULL);
            due("weak over what fills the heap", x.weak(register, register), FULL);
            due("list over what fills the heap", x.list(register, 20, 0), 0);
            due("serial of it", x.serial(register), 6);
            due("count(0)", x.count(0), 16);
            due("count(2)", x.count(2), 4);
            x.clear(register);
            due("make after clear", x.make(register, 6, 0), 7);
            due("count(0)", x.count(0), 7);
        }
        KilnHeap x = heap(16);
        waste(x, 5);
        x.make(0, 5, 1);
        waste(x, 5);
        due("weak(0, 0) with a collection first", x.weak(0, 0), 12);
        due("count(2)", x.count(2), 1);
        due("read(0, 0): the target stayed", x.read(0, 0), REFERENCE + 6);
        due("count(3)", x.count(3), 0);
        waste(x, 8);
        due("make(0, 0, 1) with a collection first", x.make(0, 0, 1), 21);
        due("finalized(0)", x.finalized(0), 6);
        due("count(0): the weak one that register 0 held stayed", x.count(0), 3);
        due("count(1)", x.count(1), 1);
        waste(x, 13);
        due("list(0, 2, 0) with a collection first", x.list(0, 2, 0), 2);
        due("count(0): and so did the one that the list begins with", x.count(0), 7);
        due("count(3)", x.count(3), 1);
        x.load(0, 0, 1);
        due("read(0, 1)", x.read(0, 1), REFERENCE + 21);
    }

    private static void noSuchRegister() {
        part = "a register that is not 0 .. 7 answers REFUSED and changes nothing;";
        for (int no : NO_REGISTERS) {
            changesNothing("make(" + no + ", 1, 0)", x -> x.make(no, 1, 0), REFUSED);
            changesNothing("make(" + no + ", 1, 1)", x -> x.make(no, 1, 1), REFUSED);
            changesNothing("weak(" + no + ", 0)", x -> x.weak(no, 0), REFUSED);
            changesNothing("weak(0, " + no + ")", x -> x.weak(0, no), REFUSED);
            changesNothing("weak(4, " + no + ")", x -> x.weak(4, no), REFUSED);
            changesNothing("list(" + no + ", 1, 0)", x -> x.list(no, 1, 0), REFUSED);
            changesNothing("list(" + no + ", 0, 0)", x -> x.list(no, 0, 0), REFUSED);
            changesNothing("put(" + no + ", 0, 1)", x -> x.put(no, 0, 1), REFUSED);
            changesNothing("link(" + no + ", 0, 0)", x -> x.link(no, 0, 0), REFUSED);
            changesNothing("link(0, 0, " + no + ")", x -> x.link(0, 0, no), REFUSED);
            changesNothing("load(" + no + ", 0, 1)", x -> x.load(no, 0, 1), REFUSED);
            changesNothing("load(0, " + no + ", 1)", x -> x.load(0, no, 1), REFUSED);
            changesNothing("copy(" + no + ", 0)", x -> x.copy(no, 0), REFUSED);
            changesNothing("copy(0, " + no + ")", x -> x.copy(0, no), REFUSED);
            changesNothing("clear(" + no + ")", x -> x.clear(no), REFUSED);
            changesNothing("read(" + no + ", 0)", x -> x.read(no, 0), BAD);
            changesNothing("serial(" + no + ")", x -> x.serial(no), REFUSED);
            changesNothing("shape(" + no + ")", x -> x.shape(no), REFUSED);
        }
    }

    private static void registersAreLookedAtFirst() {
        part = "Every call first: a register that is not 0 .. 7 .. then a register that must refer to an object";
        for (int no : NO_REGISTERS) {
            changesNothing("link(4, 0, " + no + ")", x -> x.link(4, 0, no), REFUSED);
            changesNothing("link(4, 9, " + no + ")", x -> x.link(4, 9, no), REFUSED);
            changesNothing("load(" + no + ", 4, 0)", x -> x.load(no, 4, 0), REFUSED);
            changesNothing("load(" + no + ", 4, 9)", x -> x.load(no, 4, 9), REFUSED);
            changesNothing("copy(" + no + ", 4)", x -> x.copy(no, 4), REFUSED);
        }
    }

    private static void nullRegister() {
        part = "then a register that must refer to an object and holds null: NULL;";
        changesNothing("put(4, 0, 1)", x -> x.put(4, 0, 1), NULL);
        changesNothing("link(4, 0, 0)", x -> x.link(4, 0, 0), NULL);
        changesNothing("link(4, 0, 7)", x -> x.link(4, 0, 7), NULL);
        changesNothing("load(0, 4, 0)", x -> x.load(0, 4, 0), NULL);
        changesNothing("load(4, 4, 0)", x -> x.load(4, 4, 0), NULL);
        changesNothing("copy(0, 4)", x -> x.copy(0, 4), NULL);
        changesNothing("copy(4, 4)", x -> x.copy(4, 4), NULL);
        changesNothing("serial(4)", x -> x.serial(4), NULL);
        changesNothing("shape(4)", x -> x.shape(4), NULL);
        changesNothing("read(4, 0)", x -> x.read(4, 0), BAD);
        int[] noFields = {-1, 6, 7, MIN, MAX};
        for (int no : noFields) {
            changesNothing("put(4, " + no + ", 1): before the field", x -> x.put(4, no, 1), NULL);
            changesNothing("link(4, " + no + ", 0): before the field", x -> x.link(4, no, 0), NULL);
            changesNothing("load(0, 4, " + no + "): before the field", x -> x.load(0, 4, no), NULL);
            changesNothing("read(4, " + no + ")", x -> x.read(4, no), BAD);
        }
        KilnHeap x = heap(20);
        due("make(0, 1, 0) need not find an object", x.make(0, 1, 0), 1);
        due("weak(1, 7) need not find an object", x.weak(1, 7), 2);
        due("list(2, 1, 0) need not find an object", x.list(2, 1, 0), 1);
        due("link(0, 0, 7) need not find an object in from", x.link(0, 0, 7), 0);
        due("load(6, 0, 0) need not find an object in to", x.load(6, 0, 0), 0);
        due("copy(6, 0) need not find an object in to", x.copy(6, 0), 1);
        due("clear(7) need not find an object", x.clear(7), 0);
    }

    private static void noSuchField() {
        part = "then a field number that the object doesn't have: REFUSED.";
        for (int fields = 0; fields <= 6; fields++) {
            for (int kind = 0; kind <= 1; kind++) {
                fieldsOfNeighbours(fields, kind);
            }
        }
        int[] fieldsOverTwo = {-1, -6, 2, 3, 5, 6, 7, MIN, MAX};
        for (int no : fieldsOverTwo) {
            changesNothing("put(0, " + no + ", 1)", x -> x.put(0, no, 1), REFUSED);
            changesNothing("link(0, " + no + ", 1)", x -> x.link(0, no, 1), REFUSED);
            changesNothing("link(0, " + no + ", 7)", x -> x.link(0, no, 7), REFUSED);
            changesNothing("load(6, 0, " + no + ")", x -> x.load(6, 0, no), REFUSED);
            changesNothing("read(0, " + no + ")", x -> x.read(0, no), BAD);
        }
        int[] fieldsOverOne = {-1, 1, 6, MIN, MAX};
        for (int no : fieldsOverOne) {
            changesNothing("put(2, " + no + ", 1) of a weak one", x -> x.put(2, no, 1), REFUSED);
            changesNothing("link(2, " + no + ", 1) of a weak one", x -> x.link(2, no, 1), REFUSED);
            changesNothing("load(6, 2, " + no + ") of a weak one", x -> x.load(6, 2, no), REFUSED);
            changesNothing("read(2, " + no + ") of a weak one", x -> x.read(2, no), BAD);
        }
    }

    /** Between two objects with all six fields, so that a field too many would be one of theirs. */
    private static void fieldsOfNeighbours(int fields, int kind) {
        KilnHeap x = heap(30);
        for (int register = 0; register < 3; register++) {
            x.make(register, register == 1 ? fields : 6, kind);
            for (int field = 0; field < 6; field++) {
                x.link(register, field, register);
            }
        }
        int[] noFields = {-1, -2, fields, fields + 1, 6, 7, MIN, MAX};
        for (int no : noFields) {
            due("put(1, " + no + ", 9) of " + fields, x.put(1, no, 9), REFUSED);
            due("link(1, " + no + ", 7) of " + fields, x.link(1, no, 7), REFUSED);
            due("load(5, 1, " + no + ") of " + fields, x.load(5, 1, no), REFUSED);
            due("read(1, " + no + ") of " + fields, x.read(1, no), BAD);
        }
        due("serial(5)", x.serial(5), NULL);
        for (int register = 0; register < 3; register++) {
            int has = register == 1 ? fields : 6;
            for (int field = 0; field < has; field++) {
                due("read(" + register + ", " + field + ")", x.read(register, field), REFERENCE + 1 + register);
            }
        }
    }

    private static void readConstants() {
        part = "1000000000000 + a serial number stands for a reference.";
        KilnHeap x = heap(16);
        x.make(0, 1, 0);
        x.link(0, 0, 0);
        due("read(0, 0) of the first object", x.read(0, 0), 1000000000001L);
        x.put(0, 0, MAX);
        due("read(0, 0) of the greatest int", x.read(0, 0), 2147483647L);
        x.put(0, 0, MIN);
        due("read(0, 0) of the least int", x.read(0, 0), -2147483648L);
        due("REFERENCE", KilnHeap.REFERENCE, 1000000000000L);
        due("NOTHING", KilnHeap.NOTHING, -1000000000000L);
        due("BAD", KilnHeap.BAD, -2000000000000L);
    }

    public static void main(String[] args) {
        run(KilnHeapTermsEdges::used512Calls);
        run(KilnHeapTermsEdges::firstSerial);
        run(KilnHeapTermsEdges::fewestAndMostFields);
        run(KilnHeapTermsEdges::weakHasOneField);
        run(KilnHeapTermsEdges::whatFieldsHold);
        run(KilnHeapTermsEdges::eightRegisters);
        run(KilnHeapTermsEdges::wordsOfAnObject);
        run(KilnHeapTermsEdges::reachable);
        run(KilnHeapTermsEdges::weakReachesNothing);
        run(KilnHeapTermsEdges::existFromMaking);
        run(KilnHeapTermsEdges::ceaseAtCollection);
        run(KilnHeapTermsEdges::weakFieldsBecomeNull);
        run(KilnHeapTermsEdges::finalListAscending);
        run(KilnHeapTermsEdges::reachableAgain);
        run(KilnHeapTermsEdges::collectionBeforeMaking);
        run(KilnHeapTermsEdges::full);
        run(KilnHeapTermsEdges::registersBeforeTheCall);
        run(KilnHeapTermsEdges::noSuchRegister);
        run(KilnHeapTermsEdges::registersAreLookedAtFirst);
        run(KilnHeapTermsEdges::nullRegister);
        run(KilnHeapTermsEdges::noSuchField);
        run(KilnHeapTermsEdges::readConstants);
        end();
    }
}
