import java.util.Arrays;
import java.util.NoSuchElementException;

/**
 * Registers for values by a scan over a row of operations, and the machine
 * that runs the row with the registers and slots alone.
 */
public final class ScanMill {
    public static final int NONE = -1;

    private static final int MAX_OPS = 60;
    private static final int VALUES = 24;
    private static final int MAX_REGISTERS = 8;
    private static final int REGISTERS_AT_FIRST = 4;
    private static final int MAX_STEPS = 3000;
    private static final int MAX_STEPS_A_CALL = 500;
    private static final int KEPT_OUTPUTS = 300;
    private static final int SPOILT = 7777777;
    private static final int NO_ANSWER = -9;

    private static final int NUMBER = 0;
    private static final int PLUS = 1;
    private static final int MINUS = 2;
    private static final int TIMES = 3;
    private static final int LESS = 4;
    private static final int GREATER_ONE = 5;
    private static final int COPY = 6;
    private static final int JUMP = 7;
    private static final int JUMP_IF_ZERO = 8;
    private static final int CALL = 9;
    private static final int PUT_OUT = 10;
    private static final int END = 11;

    private static final int NO_RUN = 0;
    private static final int UNDER_WAY = 1;
    private static final int AT_END = 2;
    private static final int OUT_OF_STEPS = 3;

    private final Row row = new Row();
    private final Liveness liveness = new Liveness();
    private final Places places = new Places();
    private final Machine machine = new Machine();
    private int registersWanted = REGISTERS_AT_FIRST;
    private boolean scanned = false;
    private boolean running = false;

    public ScanMill() {
    }

    public int op(int kind, int a, int b, int c) {
        int number = row.append(kind, a, b, c);
        if (number != NONE) {
            forgetScan();
        }
        return number;
    }

    public int clear() {
        int many = row.size();
        row.empty();
        forgetScan();
        return many;
    }

    public boolean registers(int many) {
        if (many < 1 || many > MAX_REGISTERS) {
            return false;
        }
        registersWanted = many;
        return true;
    }

    public int scan() {
        liveness.follow(row);
        places.assign(row, liveness, registersWanted);
        scanned = true;
        running = false;
        return places.valuesThatAre();
    }

    public boolean live(int k, int value) {
        liveness.follow(row);
        return liveness.has(k, value);
    }

    public int value(int value, int what) {
        if (!scanned || !places.are(value)) {
            return NO_ANSWER;
        }
        switch (what) {
            case 0:
                return places.firstOf(value);
            case 1:
                return places.lastOf(value);
            case 2:
                return placeOrNoAnswer(places.registerOf(value));
            case 3:
                return placeOrNoAnswer(places.slotOf(value));
            case 4:
                return places.areOverCall(value) ? 1 : 0;
            default:
                return NO_ANSWER;
        }
    }

    public void start() throws IllegalStateException {
        if (!scanned) {
            throw new IllegalStateException("nothing was scanned");
        }
        machine.reset();
        running = true;
    }

    public int run(int n) throws IllegalArgumentException, IllegalStateException {
        if (n < 1 || n > MAX_STEPS_A_CALL) {
            throw new IllegalArgumentException("the steps of one call are 1 to 500");
        }
        if (runState() != UNDER_WAY) {
            throw new IllegalStateException("no run is under way");
        }
        int done = 0;
        while (done < n && runState() == UNDER_WAY) {
            machine.step(row, places);
            done++;
        }
        return done;
    }

    public int now(int value) throws NoSuchElementException {
        if (!running || !liveness.has(machine.nextOp(), value)) {
            throw new NoSuchElementException("the value is not live in a run");
        }
        return machine.read(places, value);
    }

    public int register(int i) throws NoSuchElementException {
        if (!running || i < 0 || i >= places.registerCount()) {
            throw new NoSuchElementException("no such register in a run");
        }
        return machine.registerAt(i);
    }

    public int slot(int i) throws NoSuchElementException {
        if (!running || i < 0 || i >= places.slotCount()) {
            throw new NoSuchElementException("no such slot in a run");
        }
        return machine.slotAt(i);
    }

    public int output(int k) throws NoSuchElementException {
        if (!running || !machine.keepsOutput(k)) {
            throw new NoSuchElementException("no such number was put out");
        }
        return machine.outputAt(k);
    }

    public int total(int what) {
        switch (what) {
            case 0:
                return row.size();
            case 1:
                return scanned ? places.registerCount() : 0;
            case 2:
                return scanned ? places.slotCount() : 0;
            case 3:
                return scanned ? places.valuesWithRegisters() : 0;
            case 4:
                return running ? machine.stepCount() : 0;
            case 5:
                return running ? machine.nextOp() : 0;
            case 6:
                return running ? machine.callCount() : 0;
            case 7:
                return running ? machine.outputCount() : 0;
            case 8:
                return runState();
            default:
                return NONE;
        }
    }

    private void forgetScan() {
        liveness.markStale();
        scanned = false;
        running = false;
    }

    private int runState() {
        if (!running) {
            return NO_RUN;
        }
        if (row.kindAt(machine.nextOp()) == END) {
            return AT_END;
        }
        return machine.stepCount() >= MAX_STEPS ? OUT_OF_STEPS : UNDER_WAY;
    }

    private static int placeOrNoAnswer(int place) {
        return place == NONE ? NO_ANSWER : place;
    }

    private static boolean isValue(int value) {
        return value >= 0 && value < VALUES;
    }

    private static boolean isTarget(int t) {
        return t >= 0 && t <= MAX_OPS;
    }

    /** The ops, one behind the other. */
    private static final class Row {
        private final int[] kinds = new int[MAX_OPS];
        private final int[] as = new int[MAX_OPS];
        private final int[] bs = new int[MAX_OPS];
        private final int[] cs = new int[MAX_OPS];
        private int count = 0;

        int size() {
            return count;
        }

        void empty() {
            count = 0;
        }

        int append(int kind, int a, int b, int c) {
            if (count >= MAX_OPS || !isOp(kind, a, b, c)) {
                return NONE;
            }
            int k = count;
            kinds[k] = kind;
            as[k] = a;
            bs[k] = b;
            cs[k] = c;
            count++;
            return k;
        }

        /** Where there is no op the row ends, so the kind there is that of an end. */
        int kindAt(int k) {
            return holds(k) ? kinds[k] : END;
        }

        int numberAt(int k) {
            return holds(k) ? bs[k] : 0;
        }

        /** The value that op k sets, or NONE. */
        int setAt(int k) {
            switch (kindAt(k)) {
                case NUMBER:
                case PLUS:
                case MINUS:
                case TIMES:
                case LESS:
                case GREATER_ONE:
                case COPY:
                case CALL:
                    return as[k];
                default:
                    return NONE;
            }
        }

        /** The first value that op k reads, or NONE. */
        int leftAt(int k) {
            switch (kindAt(k)) {
                case PLUS:
                case MINUS:
                case TIMES:
                case LESS:
                case GREATER_ONE:
                case COPY:
                    return bs[k];
                case JUMP_IF_ZERO:
                case PUT_OUT:
                    return as[k];
                default:
                    return NONE;
            }
        }

        /** The second value that op k reads, or NONE. */
        int rightAt(int k) {
            switch (kindAt(k)) {
                case PLUS:
                case MINUS:
                case TIMES:
                case LESS:
                case GREATER_ONE:
                    return cs[k];
                default:
                    return NONE;
            }
        }

        /** The op that op k may go on at besides the next one, or NONE. */
        int targetAt(int k) {
            switch (kindAt(k)) {
                case JUMP:
                    return as[k];
                case JUMP_IF_ZERO:
                    return bs[k];
                default:
                    return NONE;
            }
        }

        private boolean holds(int k) {
            return k >= 0 && k < count;
        }

        private static boolean isOp(int kind, int a, int b, int c) {
            switch (kind) {
                case NUMBER:
                case CALL:
                case PUT_OUT:
                    return isValue(a);
                case PLUS:
                case MINUS:
                case TIMES:
                case LESS:
                case GREATER_ONE:
                    return isValue(a) && isValue(b) && isValue(c);
                case COPY:
                    return isValue(a) && isValue(b);
                case JUMP:
                    return isTarget(a);
                case JUMP_IF_ZERO:
                    return isValue(a) && isTarget(b);
                default:
                    return kind == END;
            }
        }
    }

    /** Which values are live ahead of which op: one bit for each value. */
    private static final class Liveness {
        private final int[] ahead = new int[MAX_OPS + 1];
        private boolean stale = true;

        void markStale() {
            stale = true;
        }

        boolean has(int k, int value) {
            return (setAhead(k) & bit(value)) != 0;
        }

        /**
         * A way without a turn in it has at most MAX_OPS ops and each sweep
         * carries a value at least one op up its way, so the bound is enough.
         */
        void follow(Row row) {
            if (!stale) {
                return;
            }
            Arrays.fill(ahead, 0);
            boolean changed = true;
            for (int pass = 0; pass <= MAX_OPS && changed; pass++) {
                changed = sweep(row);
            }
            stale = false;
        }

        private boolean sweep(Row row) {
            boolean changed = false;
            for (int k = Math.min(row.size(), MAX_OPS) - 1; k >= 0; k--) {
                int read = bit(row.leftAt(k)) | bit(row.rightAt(k));
                int found = read | (setBehind(row, k) & ~bit(row.setAt(k)));
                if (found != ahead[k]) {
                    ahead[k] = found;
                    changed = true;
                }
            }
            return changed;
        }

        private int setBehind(Row row, int k) {
            switch (row.kindAt(k)) {
                case JUMP:
                    return setAhead(row.targetAt(k));
                case JUMP_IF_ZERO:
                    return setAhead(row.targetAt(k)) | setAhead(k + 1);
                case END:
                    return 0;
                default:
                    return setAhead(k + 1);
            }
        }

        private int setAhead(int k) {
            return k >= 0 && k <= MAX_OPS ? ahead[k] : 0;
        }

        private static int bit(int value) {
            return isValue(value) ? 1 << value : 0;
        }
    }

    /** The scan: each value's times and the register or slot it gets. */
    private static final class Places {
        // A value that is has a last time of 0 or more: only its first can be -1.
        private static final int NEVER = -2;

        private final int[] firsts = new int[VALUES];
        private final int[] lasts = new int[VALUES];
        private final boolean[] overCall = new boolean[VALUES];
        private final int[] registers = new int[VALUES];
        private final int[] slots = new int[VALUES];
        private final int[] order = new int[VALUES];
        private final int[] registerHolders = new int[MAX_REGISTERS];
        private final int[] slotHolders = new int[VALUES];
        private int ordered = 0;
        private int registerCount = 0;
        private int slotCount = 0;

        void assign(Row row, Liveness liveness, int registersWanted) {
            forget(registersWanted);
            findTimes(row, liveness);
            findOverCall(row);
            orderByFirst();
            giveRegisters();
            giveSlots();
        }

        boolean are(int value) {
            return isValue(value) && lasts[value] != NEVER;
        }

        int firstOf(int value) {
            return isValue(value) ? firsts[value] : NEVER;
        }

        int lastOf(int value) {
            return isValue(value) ? lasts[value] : NEVER;
        }

        boolean areOverCall(int value) {
            return isValue(value) && overCall[value];
        }

        int registerOf(int value) {
            return isValue(value) ? registers[value] : NONE;
        }

        int slotOf(int value) {
            return isValue(value) ? slots[value] : NONE;
        }

        int valuesThatAre() {
            return ordered;
        }

        int registerCount() {
            return registerCount;
        }

        int slotCount() {
            return slotCount;
        }

        int valuesWithRegisters() {
            int many = 0;
            for (int value = 0; value < VALUES; value++) {
                if (registers[value] != NONE) {
                    many++;
                }
            }
            return many;
        }

        private void forget(int registersWanted) {
            Arrays.fill(firsts, NEVER);
            Arrays.fill(lasts, NEVER);
            Arrays.fill(registers, NONE);
            Arrays.fill(slots, NONE);
            Arrays.fill(registerHolders, NONE);
            Arrays.fill(slotHolders, NONE);
            ordered = 0;
            registerCount = Math.max(0, Math.min(registersWanted, MAX_REGISTERS));
            slotCount = 0;
        }

        /** What an op reads is live ahead of it, so reading adds no time of its own. */
        private void findTimes(Row row, Liveness liveness) {
            for (int value = 0; value < VALUES; value++) {
                if (liveness.has(0, value)) {
                    note(value, -1);
                }
                for (int k = 0; k < row.size(); k++) {
                    if (liveness.has(k, value)) {
                        note(value, 2 * k);
                    }
                    if (row.setAt(k) == value) {
                        note(value, 2 * k + 1);
                    }
                }
            }
        }

        /** The times of one value come in rising order. */
        private void note(int value, int time) {
            if (!isValue(value)) {
                return;
            }
            if (lasts[value] == NEVER) {
                firsts[value] = time;
            }
            lasts[value] = time;
        }

        private void findOverCall(Row row) {
            for (int value = 0; value < VALUES; value++) {
                overCall[value] = false;
                for (int k = 0; k < row.size(); k++) {
                    if (row.kindAt(k) == CALL && are(value) && firsts[value] <= 2 * k && lasts[value] > 2 * k) {
                        overCall[value] = true;
                    }
                }
            }
        }

        /** Values come in by their numbers and pass none of the same first time. */
        private void orderByFirst() {
            for (int value = 0; value < VALUES; value++) {
                if (are(value)) {
                    int at = ordered;
                    while (at > 0 && firstOf(order[at - 1]) > firsts[value]) {
                        order[at] = order[at - 1];
                        at--;
                    }
                    order[at] = value;
                    ordered++;
                }
            }
        }

        private void giveRegisters() {
            for (int i = 0; i < ordered; i++) {
                int value = order[i];
                if (!areOverCall(value)) {
                    giveRegister(value);
                }
            }
        }

        private void giveRegister(int value) {
            int free = leastFree(registerHolders, registerCount, value);
            if (free != NONE) {
                takeRegister(value, free);
                return;
            }
            int held = registerHeldLongest();
            if (held == NONE) {
                return;
            }
            int holder = registerHolders[held];
            if (isValue(holder) && lasts[holder] > lastOf(value)) {
                registers[holder] = NONE;
                takeRegister(value, held);
            }
        }

        private void takeRegister(int value, int register) {
            registerHolders[register] = value;
            registers[value] = register;
        }

        /** Of several holders with the same last time the greatest register wins. */
        private int registerHeldLongest() {
            int found = NONE;
            int greatest = NEVER;
            for (int register = 0; register < registerCount; register++) {
                int last = lastOf(registerHolders[register]);
                if (last >= greatest) {
                    greatest = last;
                    found = register;
                }
            }
            return found;
        }

        private void giveSlots() {
            for (int i = 0; i < ordered; i++) {
                int value = order[i];
                if (registers[value] == NONE) {
                    giveSlot(value);
                }
            }
        }

        /** There are as many slots as values, so one is always free. */
        private void giveSlot(int value) {
            int free = leastFree(slotHolders, VALUES, value);
            if (free == NONE) {
                return;
            }
            slotHolders[free] = value;
            slots[value] = free;
            slotCount = Math.max(slotCount, free + 1);
        }

        /** A place that nobody held yet has NEVER as its last time, which is below all first times. */
        private int leastFree(int[] holders, int many, int value) {
            for (int place = 0; place < many; place++) {
                if (lastOf(holders[place]) < firstOf(value)) {
                    return place;
                }
            }
            return NONE;
        }
    }

    /** A run's state: registers, slots and what was put out. */
    private static final class Machine {
        private final int[] registers = new int[MAX_REGISTERS];
        private final int[] slots = new int[VALUES];
        private final int[] outputs = new int[KEPT_OUTPUTS];
        private int next = 0;
        private int steps = 0;
        private int calls = 0;
        private int putOut = 0;

        void reset() {
            Arrays.fill(registers, 0);
            Arrays.fill(slots, 0);
            next = 0;
            steps = 0;
            calls = 0;
            putOut = 0;
        }

        int nextOp() {
            return next;
        }

        int stepCount() {
            return steps;
        }

        int callCount() {
            return calls;
        }

        int outputCount() {
            return putOut;
        }

        int registerAt(int i) {
            return i >= 0 && i < MAX_REGISTERS ? registers[i] : 0;
        }

        int slotAt(int i) {
            return i >= 0 && i < VALUES ? slots[i] : 0;
        }

        boolean keepsOutput(int k) {
            return k >= 0 && k < Math.min(putOut, KEPT_OUTPUTS);
        }

        int outputAt(int k) {
            return keepsOutput(k) ? outputs[k] : 0;
        }

        int read(Places places, int value) {
            int register = places.registerOf(value);
            return register != NONE ? registerAt(register) : slotAt(places.slotOf(value));
        }

        void step(Row row, Places places) {
            int k = next;
            int x = read(places, row.leftAt(k));
            int y = read(places, row.rightAt(k));
            steps++;
            next = k + 1;
            switch (row.kindAt(k)) {
                case JUMP:
                    next = row.targetAt(k);
                    break;
                case JUMP_IF_ZERO:
                    next = x == 0 ? row.targetAt(k) : k + 1;
                    break;
                case CALL:
                    calls++;
                    Arrays.fill(registers, SPOILT);
                    write(places, row.setAt(k), calls);
                    break;
                case PUT_OUT:
                    keep(x);
                    break;
                case NUMBER:
                    write(places, row.setAt(k), row.numberAt(k));
                    break;
                default:
                    write(places, row.setAt(k), reckon(row.kindAt(k), x, y));
                    break;
            }
        }

        private static int reckon(int kind, int x, int y) {
            switch (kind) {
                case PLUS:
                    return x + y;
                case MINUS:
                    return x - y;
                case TIMES:
                    return x * y;
                case LESS:
                    return x < y ? 1 : 0;
                case GREATER_ONE:
                    return Math.max(x, y);
                default:
                    return x;
            }
        }

        private void write(Places places, int value, int number) {
            int register = places.registerOf(value);
            int slot = places.slotOf(value);
            if (register >= 0 && register < MAX_REGISTERS) {
                registers[register] = number;
            } else if (slot >= 0 && slot < VALUES) {
                slots[slot] = number;
            }
        }

        private void keep(int number) {
            if (putOut < KEPT_OUTPUTS) {
                outputs[putOut] = number;
            }
            putOut++;
        }
    }
}
