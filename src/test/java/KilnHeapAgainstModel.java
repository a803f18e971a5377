import java.util.ArrayDeque;
import java.util.ArrayList;
import java.util.Collections;
import java.util.Deque;
import java.util.IdentityHashMap;
import java.util.List;
import java.util.Random;
import java.util.Set;

/** Long runs of mixed calls, each answer compared with that of a heap made of real Java references. */
public final class KilnHeapAgainstModel {
    private static final int REFUSED = -1, NULL = -2, FULL = -3;
    private static final long REFERENCE = 1000000000000L, NOTHING = -1000000000000L, BAD = -2000000000000L;
    private static final int RUNS = 6000;
    private static final int CALLS = 512;
    private static final int[] EDGES = {-1, 8, 7, 6, 16, 20, 21, 15, Integer.MIN_VALUE, Integer.MAX_VALUE};
    private static final int[] CAPACITIES = {16, 17, 20, 31, 64, 95, 96, 97, 15, 0, Integer.MIN_VALUE, Integer.MAX_VALUE};

    /** A field is an Integer, a Thing or null. */
    private static final class Thing {
        final int serial;
        final int kind;
        final Object[] fields;

        Thing(int serial, int kind, int fields) {
            this.serial = serial;
            this.kind = kind;
            this.fields = new Object[fields];
            for (int i = 0; i < fields; i++) {
                this.fields[i] = 0;
            }
        }
    }

    /** Each operation takes three numbers and looks at as many of them as it has parameters. */
    private static final class Model {
        final int capacity;
        final Thing[] registers = new Thing[8];
        final List<Thing> existing = new ArrayList<>();
        final List<Integer> finals = new ArrayList<>();
        int serials = 0;
        int collections = 0;

        Model(int capacity) {
            this.capacity = Math.max(16, Math.min(96, capacity));
        }

        static int words(Iterable<Thing> things) {
            int sum = 0;
            for (Thing thing : things) {
                sum += 1 + thing.fields.length;
            }
            return sum;
        }

        Set<Thing> reachable() {
            Set<Thing> seen = Collections.newSetFromMap(new IdentityHashMap<>());
            Deque<Thing> open = new ArrayDeque<>();
            for (Thing thing : registers) {
                if (thing != null && seen.add(thing)) {
                    open.push(thing);
                }
            }
            while (!open.isEmpty()) {
                Thing thing = open.pop();
                if (thing.kind == 2) {
                    continue;
                }
                for (Object held : thing.fields) {
                    if (held instanceof Thing && seen.add((Thing) held)) {
                        open.push((Thing) held);
                    }
                }
            }
            return seen;
        }

        void collection() {
            Set<Thing> stays = reachable();
            for (Thing thing : existing) {
                if (!stays.contains(thing) && thing.kind == 1) {
                    finals.add(thing.serial);
                }
            }
            existing.removeIf(thing -> !stays.contains(thing));
            for (Thing thing : existing) {
                if (thing.kind == 2 && thing.fields[0] != null && !stays.contains(thing.fields[0])) {
                    thing.fields[0] = null;
                }
            }
            collections++;
        }

        Thing made(int kind, int fields) {
            if (words(existing) + 1 + fields > capacity) {
                collection();
            }
            if (words(existing) + 1 + fields > capacity) {
                return null;
            }
            Thing thing = new Thing(++serials, kind, fields);
            existing.add(thing);
            return thing;
        }

        static boolean no(int register) {
            return register < 0 || register > 7;
        }

        static boolean noField(Thing thing, int field) {
            return field < 0 || field >= thing.fields.length;
        }

        long make(int register, int fields, int kind) {
            if (no(register) || fields < 0 || fields > 6 || kind < 0 || kind > 1) {
                return REFUSED;
            }
            Thing thing = made(kind, fields);
            if (thing == null) {
                return FULL;
            }
            registers[register] = thing;
            return thing.serial;
        }

        long weak(int register, int target) {
            if (no(register) || no(target)) {
                return REFUSED;
            }
            Thing thing = made(2, 1);
            if (thing == null) {
                return FULL;
            }
            thing.fields[0] = registers[target];
            registers[register] = thing;
            return thing.serial;
        }

        long list(int register, int count, int start) {
            if (no(register) || count < 0 || count > 20) {
                return REFUSED;
            }
            for (int j = 0; j < count; j++) {
                Thing thing = made(0, 2);
                if (thing == null) {
                    return j;
                }
                thing.fields[0] = start + j;
                thing.fields[1] = registers[register];
                registers[register] = thing;
            }
            return count;
        }

        long put(int register, int field, int value) {
            if (no(register)) {
                return REFUSED;
            }
            Thing thing = registers[register];
            if (thing == null) {
                return NULL;
            }
            if (noField(thing, field) || thing.kind == 2) {
                return REFUSED;
            }
            thing.fields[field] = value;
            return 0;
        }

        long link(int register, int field, int from) {
            if (no(register) || no(from)) {
                return REFUSED;
            }
            Thing thing = registers[register];
            if (thing == null) {
                return NULL;
            }
            if (noField(thing, field) || thing.kind == 2) {
                return REFUSED;
            }
            thing.fields[field] = registers[from];
            return 0;
        }

        long load(int to, int register, int field) {
            if (no(to) || no(register)) {
                return REFUSED;
            }
            Thing thing = registers[register];
            if (thing == null) {
                return NULL;
            }
            if (noField(thing, field) || thing.fields[field] instanceof Integer) {
                return REFUSED;
            }
            registers[to] = (Thing) thing.fields[field];
            return 0;
        }

        long copy(int to, int from) {
            if (no(to) || no(from)) {
                return REFUSED;
            }
            if (registers[from] == null) {
                return NULL;
            }
            registers[to] = registers[from];
            return registers[to].serial;
        }

        long clear(int register) {
            if (no(register)) {
                return REFUSED;
            }
            registers[register] = null;
            return 0;
        }

        long read(int register, int field) {
            if (no(register) || registers[register] == null || noField(registers[register], field)) {
                return BAD;
            }
            Object held = registers[register].fields[field];
            if (held == null) {
                return NOTHING;
            }
            return held instanceof Thing ? REFERENCE + ((Thing) held).serial : (Integer) held;
        }

        long serial(int register) {
            if (no(register)) {
                return REFUSED;
            }
            return registers[register] == null ? NULL : registers[register].serial;
        }

        long shape(int register) {
            if (no(register)) {
                return REFUSED;
            }
            Thing thing = registers[register];
            return thing == null ? NULL : thing.kind * 8 + thing.fields.length;
        }

        long collect() {
            collection();
            return words(existing);
        }

        long count(int what) {
            switch (what) {
                case 0: return words(existing);
                case 1: return words(reachable());
                case 2: return collections;
                case 3: return finals.size();
                case 4: return capacity;
                default: return REFUSED;
            }
        }

        long finalized(int back) {
            return back < 0 || back > 15 || back >= finals.size() ? 0 : finals.get(finals.size() - 1 - back);
        }
    }

    private static final String[] NAMES = {"make", "weak", "list", "put", "link", "load", "copy", "clear", "read",
        "serial", "shape", "collect", "count", "finalized"};

    private static long onHeap(KilnHeap x, int call, int a, int b, int c) {
        switch (call) {
            case 0: return x.make(a, b, c);
            case 1: return x.weak(a, b);
            case 2: return x.list(a, b, c);
            case 3: return x.put(a, b, c);
            case 4: return x.link(a, b, c);
            case 5: return x.load(a, b, c);
            case 6: return x.copy(a, b);
            case 7: return x.clear(a);
            case 8: return x.read(a, b);
            case 9: return x.serial(a);
            case 10: return x.shape(a);
            case 11: return x.collect();
            case 12: return x.count(a);
            default: return x.finalized(a);
        }
    }

    private static long onModel(Model x, int call, int a, int b, int c) {
        switch (call) {
            case 0: return x.make(a, b, c);
            case 1: return x.weak(a, b);
            case 2: return x.list(a, b, c);
            case 3: return x.put(a, b, c);
            case 4: return x.link(a, b, c);
            case 5: return x.load(a, b, c);
            case 6: return x.copy(a, b);
            case 7: return x.clear(a);
            case 8: return x.read(a, b);
            case 9: return x.serial(a);
            case 10: return x.shape(a);
            case 11: return x.collect();
            case 12: return x.count(a);
            default: return x.finalized(a);
        }
    }

    /** Mostly a number that the call takes, now and then one at or far over an edge. */
    private static int number(Random random, int most) {
        return random.nextInt(40) == 0 ? EDGES[random.nextInt(EDGES.length)] : random.nextInt(most + 1);
    }

    /** The first fields more often than the last: more objects have them, so that fewer calls are refused. */
    private static int field(Random random) {
        return number(random, random.nextInt(3) == 0 ? 6 : 2);
    }

    /** The three numbers of a call; few registers in use make for more meeting of references. */
    private static int[] numbers(Random random, int call, int registers) {
        int a = number(random, registers);
        int b = number(random, registers);
        int c = number(random, registers);
        switch (call) {
            case 0: return new int[] {a, number(random, 6), number(random, 1)};
            case 2: return new int[] {a, number(random, random.nextInt(4) == 0 ? 20 : 3), random.nextInt()};
            case 3: return new int[] {a, field(random), random.nextInt(3) == 0 ? random.nextInt() : b};
            case 4: return new int[] {a, field(random), c};
            case 5: return new int[] {a, b, field(random)};
            case 8: return new int[] {a, field(random), 0};
            case 12: return new int[] {number(random, 4), 0, 0};
            case 13: return new int[] {number(random, 15), 0, 0};
            default: return new int[] {a, b, c};
        }
    }

    private static final int[] WEIGHTS = {16, 10, 3, 4, 22, 16, 4, 7, 20, 5, 3, 2, 12, 6};

    private static int weighted(Random random) {
        int all = 0;
        for (int weight : WEIGHTS) {
            all += weight;
        }
        int left = random.nextInt(all);
        int call = 0;
        while (left >= WEIGHTS[call]) {
            left -= WEIGHTS[call];
            call++;
        }
        return call;
    }

    /** Stops at the first difference: what comes after it follows from it. */
    private static boolean sameAnswers(int run) {
        Random random = new Random(run);
        int capacity = CAPACITIES[random.nextInt(CAPACITIES.length)];
        int registers = 1 + random.nextInt(7);
        KilnHeap heap = new KilnHeap(capacity, random.nextInt());
        Model model = new Model(capacity);
        for (int i = 0; i < CALLS; i++) {
            int call = weighted(random);
            int[] n = numbers(random, call, registers);
            long want = onModel(model, call, n[0], n[1], n[2]);
            long got = onHeap(heap, call, n[0], n[1], n[2]);
            if (got != want) {
                System.out.println("run " + run + ", call " + i + ": " + NAMES[call] + " of " + n[0] + ", " + n[1] + ", "
                    + n[2] + " answered " + got + ", due is " + want);
                return false;
            }
        }
        return true;
    }

    /** What these calls answer is free after the 512th, but none may throw. */
    private static void manyCalls() {
        Random random = new Random(-1);
        for (int capacity : CAPACITIES) {
            KilnHeap heap = new KilnHeap(capacity, capacity);
            for (int i = 0; i < 50000; i++) {
                int call = weighted(random);
                int[] n = numbers(random, call, 7);
                onHeap(heap, call, n[0], n[1], n[2]);
            }
        }
    }

    public static void main(String[] args) {
        int wrong = 0;
        for (int run = 0; run < RUNS && wrong < 10; run++) {
            if (!sameAnswers(run)) {
                wrong++;
            }
        }
        manyCalls();
        System.out.println(wrong == 0 ? "all answers are as due" : wrong + " runs or more are not as due");
        if (wrong != 0) {
            System.exit(1);
        }
    }
}
