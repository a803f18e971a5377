/** A garbage-collected heap: each existing object lies in one slot, and a reference is a slot number. */
public final class KilnHeap {
    public static final int REFUSED = -1, NULL = -2, FULL = -3;
    public static final long REFERENCE = 1000000000000L, NOTHING = -1000000000000L, BAD = -2000000000000L;

    private static final int LEAST_CAPACITY = 16;
    private static final int GREATEST_CAPACITY = 96;
    private static final int REGISTERS = 8;
    // An object has at least one word, so there are never more objects than words.
    private static final int SLOTS = 96;
    private static final int MOST_FIELDS = 6;
    private static final int CELLS = 576;
    private static final int LONGEST_LIST = 20;
    private static final int PLAIN = 0;
    private static final int FINALIZABLE = 1;
    private static final int WEAK = 2;
    private static final int NO_SLOT = -1;
    private static final int NO_FAULT = 0;
    // Only the last 16 of the final list can be asked for; a power of two, so that a mask finds the place.
    private static final int RECALLED = 16;
    private static final int RECALLED_MASK = 15;

    private final int capacity;
    private final int[] registers = new int[REGISTERS];

    private final boolean[] exists = new boolean[SLOTS];
    private final int[] serials = new int[SLOTS];
    private final int[] kinds = new int[SLOTS];
    private final int[] fieldCounts = new int[SLOTS];

    // A cell is one field of one slot: an int, or else a slot number or NO_SLOT for null.
    private final boolean[] holdsReference = new boolean[CELLS];
    private final int[] contents = new int[CELLS];

    // Valid only right after findReachable.
    private final boolean[] reachable = new boolean[SLOTS];
    private final int[] reached = new int[SLOTS];
    private int reachedCount = 0;

    private final int[] finalSerials = new int[RECALLED];
    private int finalLength = 0;
    private int collections = 0;
    private int lastSerial = 0;

    /** The layout is a hint that no answer may show, and slots have no use for it. */
    public KilnHeap(int capacity, int layout) {
        if (capacity < LEAST_CAPACITY) {
            this.capacity = LEAST_CAPACITY;
        } else if (capacity > GREATEST_CAPACITY) {
            this.capacity = GREATEST_CAPACITY;
        } else {
            this.capacity = capacity;
        }
        for (int register = 0; register < REGISTERS; register++) {
            registers[register] = NO_SLOT;
        }
    }

    public int make(int register, int fields, int kind) {
        if (!isRegister(register) || fields < 0 || fields > MOST_FIELDS) {
            return REFUSED;
        }
        if (kind != PLAIN && kind != FINALIZABLE) {
            return REFUSED;
        }
        int slot = newObject(kind, fields);
        if (slot == NO_SLOT) {
            return FULL;
        }
        registers[register] = slot;
        return serials[slot];
    }

    public int weak(int register, int target) {
        if (!isRegister(register) || !isRegister(target)) {
            return REFUSED;
        }
        int slot = newObject(WEAK, 1);
        if (slot == NO_SLOT) {
            return FULL;
        }
        int cell = cellOf(slot, 0);
        setReference(cell, registers[target]);
        registers[register] = slot;
        return serials[slot];
    }

    public int list(int register, int count, int start) {
        if (!isRegister(register) || count < 0 || count > LONGEST_LIST) {
            return REFUSED;
        }
        for (int made = 0; made < count; made++) {
            int slot = newObject(PLAIN, 2);
            if (slot == NO_SLOT) {
                return made;
            }
            int numberCell = cellOf(slot, 0);
            int restCell = cellOf(slot, 1);
            setInt(numberCell, start + made);
            setReference(restCell, registers[register]);
            // Set before the next one is made: a collection there must find this one reachable.
            registers[register] = slot;
        }
        return count;
    }

    public int put(int register, int field, int value) {
        int fault = faultOfWrite(register, field);
        if (fault != NO_FAULT) {
            return fault;
        }
        int cell = cellOf(registers[register], field);
        setInt(cell, value);
        return 0;
    }

    public int link(int register, int field, int from) {
        if (!isRegister(from)) {
            return REFUSED;
        }
        int fault = faultOfWrite(register, field);
        if (fault != NO_FAULT) {
            return fault;
        }
        int cell = cellOf(registers[register], field);
        setReference(cell, registers[from]);
        return 0;
    }

    public int load(int to, int register, int field) {
        if (!isRegister(to)) {
            return REFUSED;
        }
        int fault = faultOfField(register, field);
        if (fault != NO_FAULT) {
            return fault;
        }
        int cell = cellOf(registers[register], field);
        if (!holdsReference[cell]) {
            return REFUSED;
        }
        registers[to] = contents[cell];
        return 0;
    }

    public int copy(int to, int from) {
        if (!isRegister(to)) {
            return REFUSED;
        }
        int fault = faultOfReference(from);
        if (fault != NO_FAULT) {
            return fault;
        }
        registers[to] = registers[from];
        return serials[registers[from]];
    }

    public int clear(int register) {
        if (!isRegister(register)) {
            return REFUSED;
        }
        registers[register] = NO_SLOT;
        return 0;
    }

    public long read(int register, int field) {
        int fault = faultOfField(register, field);
        if (fault != NO_FAULT) {
            return BAD;
        }
        int cell = cellOf(registers[register], field);
        if (!holdsReference[cell]) {
            return contents[cell];
        }
        if (contents[cell] == NO_SLOT) {
            return NOTHING;
        }
        return REFERENCE + serials[contents[cell]];
    }

    public int serial(int register) {
        int fault = faultOfReference(register);
        if (fault != NO_FAULT) {
            return fault;
        }
        return serials[registers[register]];
    }

    public int shape(int register) {
        int fault = faultOfReference(register);
        if (fault != NO_FAULT) {
            return fault;
        }
        int slot = registers[register];
        return kinds[slot] * 8 + fieldCounts[slot];
    }

    public int collect() {
        runCollection();
        return existingWords();
    }

    public int count(int what) {
        switch (what) {
            case 0:
                return existingWords();
            case 1:
                return reachableWords();
            case 2:
                return collections;
            case 3:
                return finalLength;
            case 4:
                return capacity;
            default:
                return REFUSED;
        }
    }

    public int finalized(int back) {
        if (back < 0 || back >= RECALLED || back >= finalLength) {
            return 0;
        }
        return finalSerials[(finalLength - 1 - back) & RECALLED_MASK];
    }

    private boolean isRegister(int register) {
        return register >= 0 && register < REGISTERS;
    }

    private int faultOfReference(int register) {
        if (!isRegister(register)) {
            return REFUSED;
        }
        return registers[register] == NO_SLOT ? NULL : NO_FAULT;
    }

    private int faultOfField(int register, int field) {
        int fault = faultOfReference(register);
        if (fault != NO_FAULT) {
            return fault;
        }
        int fields = fieldCounts[registers[register]];
        return field < 0 || field >= fields ? REFUSED : NO_FAULT;
    }

    private int faultOfWrite(int register, int field) {
        int fault = faultOfField(register, field);
        if (fault != NO_FAULT) {
            return fault;
        }
        return kinds[registers[register]] == WEAK ? REFUSED : NO_FAULT;
    }

    private int cellOf(int slot, int field) {
        return slot * MOST_FIELDS + field;
    }

    private void setInt(int cell, int value) {
        holdsReference[cell] = false;
        contents[cell] = value;
    }

    private void setReference(int cell, int slot) {
        holdsReference[cell] = true;
        contents[cell] = slot;
    }

    /** The slot of a new object whose fields are all int 0, or NO_SLOT if it can't be made. */
    private int newObject(int kind, int fields) {
        int mostOthers = capacity - 1 - fields;
        if (existingWords() > mostOthers) {
            runCollection();
        }
        if (existingWords() > mostOthers) {
            return NO_SLOT;
        }
        int slot = freeSlot();
        // Where a word is free a slot is too; looked at all the same, as slot becomes an index.
        if (slot == NO_SLOT) {
            return NO_SLOT;
        }
        lastSerial++;
        exists[slot] = true;
        serials[slot] = lastSerial;
        kinds[slot] = kind;
        fieldCounts[slot] = fields;
        for (int field = 0; field < fields; field++) {
            int cell = cellOf(slot, field);
            setInt(cell, 0);
        }
        return slot;
    }

    private int freeSlot() {
        for (int slot = 0; slot < SLOTS; slot++) {
            if (!exists[slot]) {
                return slot;
            }
        }
        return NO_SLOT;
    }

    private int existingWords() {
        int words = 0;
        for (int slot = 0; slot < SLOTS; slot++) {
            if (exists[slot]) {
                words += 1 + fieldCounts[slot];
            }
        }
        return words;
    }

    private int reachableWords() {
        findReachable();
        int words = 0;
        for (int slot = 0; slot < SLOTS; slot++) {
            if (reachable[slot]) {
                words += 1 + fieldCounts[slot];
            }
        }
        return words;
    }

    private void runCollection() {
        findReachable();
        clearWeakFields();
        recordFinalized();
        removeUnreachable();
        collections++;
    }

    private void findReachable() {
        for (int slot = 0; slot < SLOTS; slot++) {
            reachable[slot] = false;
        }
        reachedCount = 0;
        for (int register = 0; register < REGISTERS; register++) {
            reach(registers[register]);
        }
        for (int next = 0; next < SLOTS && next < reachedCount; next++) {
            reachFromFields(reached[next]);
        }
    }

    private void reachFromFields(int slot) {
        if (kinds[slot] == WEAK) {
            return;
        }
        for (int field = 0; field < fieldCounts[slot]; field++) {
            int cell = cellOf(slot, field);
            if (holdsReference[cell]) {
                reach(contents[cell]);
            }
        }
    }

    private void reach(int slot) {
        if (slot == NO_SLOT || reachable[slot]) {
            return;
        }
        reachable[slot] = true;
        // Each slot comes here once at most, so there is always room.
        reached[reachedCount] = slot;
        reachedCount++;
    }

    private void clearWeakFields() {
        for (int slot = 0; slot < SLOTS; slot++) {
            if (reachable[slot] && kinds[slot] == WEAK) {
                int cell = cellOf(slot, 0);
                if (contents[cell] != NO_SLOT && !reachable[contents[cell]]) {
                    contents[cell] = NO_SLOT;
                }
            }
        }
    }

    /** Slots are used again in any order, so ascending serials have to be sought one by one. */
    private void recordFinalized() {
        for (int round = 0; round < SLOTS; round++) {
            int slot = firstMadeToFinalize();
            if (slot == NO_SLOT) {
                return;
            }
            exists[slot] = false;
            finalSerials[finalLength & RECALLED_MASK] = serials[slot];
            finalLength++;
        }
    }

    private int firstMadeToFinalize() {
        int first = NO_SLOT;
        for (int slot = 0; slot < SLOTS; slot++) {
            boolean ceases = exists[slot] && !reachable[slot] && kinds[slot] == FINALIZABLE;
            if (ceases && (first == NO_SLOT || serials[slot] < serials[first])) {
                first = slot;
            }
        }
        return first;
    }

    private void removeUnreachable() {
        for (int slot = 0; slot < SLOTS; slot++) {
            exists[slot] = reachable[slot];
        }
    }
}
