import java.util.ArrayList;
import java.util.Arrays;
import java.util.HashSet;
import java.util.List;
import java.util.NoSuchElementException;
import java.util.Random;
import java.util.Set;
import java.util.TreeSet;

/**
 * Many runs of calls against a model that follows the document's words in another
 * way: liveness by walking, times as sets, and a run that knows values and no places
 * beside one that knows the places.
 */
public final class ModelTest {
    private static final int RUNS = 3000;
    private static final int CALLS = 512;

    private interface Call {
        long answer();
    }

    private static String outcome(Call call) {
        try {
            return Long.toString(call.answer());
        } catch (RuntimeException e) {
            return e.getClass().getName();
        }
    }

    private static final class Model {
        final List<int[]> ops = new ArrayList<>();
        int wanted = 4;
        boolean scanned;
        boolean running;
        int registerCount;
        int slotCount;
        final List<TreeSet<Integer>> times = new ArrayList<>();
        final int[] register = new int[24];
        final int[] slot = new int[24];
        final boolean[] over = new boolean[24];
        int[] plain = new int[24];
        int[] registers = new int[8];
        int[] slots = new int[24];
        int next;
        int steps;
        int calls;
        final List<Integer> put = new ArrayList<>();

        List<Integer> reads(int[] op) {
            if (op[0] >= 1 && op[0] <= 5) {
                return List.of(op[2], op[3]);
            }
            if (op[0] == 6) {
                return List.of(op[2]);
            }
            return op[0] == 8 || op[0] == 10 ? List.of(op[1]) : List.of();
        }

        int sets(int[] op) {
            return op[0] <= 6 || op[0] == 9 ? op[1] : -1;
        }

        boolean there(int k) {
            return k >= 0 && k < ops.size();
        }

        boolean walk(int k, int value, Set<Integer> seen) {
            if (!there(k) || !seen.add(k)) {
                return false;
            }
            int[] op = ops.get(k);
            if (reads(op).contains(value)) {
                return true;
            }
            if (sets(op) == value || op[0] == 11) {
                return false;
            }
            if (op[0] == 7) {
                return walk(op[1], value, seen);
            }
            return op[0] == 8 && walk(op[2], value, seen) || walk(k + 1, value, seen);
        }

        boolean live(int k, int value) {
            return walk(k, value, new HashSet<>());
        }

        boolean bad(int value) {
            return value < 0 || value > 23;
        }

        int op(int kind, int a, int b, int c) {
            int[] op = {kind, a, b, c};
            if (ops.size() == 60 || kind < 0 || kind > 11) {
                return -1;
            }
            for (int value : reads(op)) {
                if (bad(value)) {
                    return -1;
                }
            }
            if ((kind <= 6 || kind == 9) && bad(a)) {
                return -1;
            }
            int t = kind == 7 ? a : kind == 8 ? b : 0;
            if (t < 0 || t > 60) {
                return -1;
            }
            ops.add(op);
            scanned = false;
            running = false;
            return ops.size() - 1;
        }

        int clear() {
            int many = ops.size();
            ops.clear();
            scanned = false;
            running = false;
            return many;
        }

        boolean setRegisters(int many) {
            boolean right = many >= 1 && many <= 8;
            wanted = right ? many : wanted;
            return right;
        }

        int first(int value) {
            return times.get(value).first();
        }

        int last(int value) {
            return times.get(value).last();
        }

        boolean is(int value) {
            return !times.get(value).isEmpty();
        }

        int scan() {
            registerCount = wanted;
            scanned = true;
            running = false;
            times.clear();
            List<Integer> are = new ArrayList<>();
            for (int value = 0; value < 24; value++) {
                times.add(timesOf(value));
                register[value] = -9;
                slot[value] = -9;
                over[value] = false;
                if (is(value)) {
                    are.add(value);
                    for (int k = 0; k < ops.size(); k++) {
                        over[value] |= ops.get(k)[0] == 9 && first(value) <= 2 * k && last(value) > 2 * k;
                    }
                }
            }
            are.sort((v, w) -> first(v) != first(w) ? Integer.compare(first(v), first(w)) : Integer.compare(v, w));
            giveRegisters(are);
            giveSlots(are);
            return are.size();
        }

        TreeSet<Integer> timesOf(int value) {
            TreeSet<Integer> found = new TreeSet<>();
            for (int k = 0; k < ops.size(); k++) {
                if (live(k, value) || reads(ops.get(k)).contains(value)) {
                    found.add(2 * k);
                }
                if (sets(ops.get(k)) == value) {
                    found.add(2 * k + 1);
                }
            }
            if (live(0, value)) {
                found.add(-1);
            }
            return found;
        }

        /** Keeps those that hold a register now, in no array by register. */
        void giveRegisters(List<Integer> are) {
            List<Integer> active = new ArrayList<>();
            for (int value : are) {
                if (over[value]) {
                    continue;
                }
                active.removeIf(v -> last(v) < first(value));
                TreeSet<Integer> free = new TreeSet<>();
                for (int r = 0; r < registerCount; r++) {
                    free.add(r);
                }
                for (int v : active) {
                    free.remove(register[v]);
                }
                if (!free.isEmpty()) {
                    register[value] = free.first();
                    active.add(value);
                    continue;
                }
                int most = active.get(0);
                for (int v : active) {
                    if (last(v) > last(most) || last(v) == last(most) && register[v] > register[most]) {
                        most = v;
                    }
                }
                if (last(most) > last(value)) {
                    register[value] = register[most];
                    register[most] = -9;
                    active.remove((Integer) most);
                    active.add(value);
                }
            }
        }

        void giveSlots(List<Integer> are) {
            List<Integer> holders = new ArrayList<>();
            for (int value : are) {
                if (register[value] != -9) {
                    continue;
                }
                int s = 0;
                while (s < holders.size() && last(holders.get(s)) >= first(value)) {
                    s++;
                }
                if (s == holders.size()) {
                    holders.add(value);
                } else {
                    holders.set(s, value);
                }
                slot[value] = s;
            }
            slotCount = holders.size();
        }

        int value(int value, int what) {
            if (!scanned || bad(value) || !is(value)) {
                return -9;
            }
            return what == 0 ? first(value) : what == 1 ? last(value) : what == 2 ? register[value]
                    : what == 3 ? slot[value] : what == 4 ? (over[value] ? 1 : 0) : -9;
        }

        void start() {
            if (!scanned) {
                throw new IllegalStateException();
            }
            running = true;
            plain = new int[24];
            registers = new int[8];
            slots = new int[24];
            next = 0;
            steps = 0;
            calls = 0;
            put.clear();
        }

        int state() {
            if (!running) {
                return 0;
            }
            return !there(next) || ops.get(next)[0] == 11 ? 2 : steps == 3000 ? 3 : 1;
        }

        int run(int n) {
            if (n < 1 || n > 500) {
                throw new IllegalArgumentException();
            }
            if (state() != 1) {
                throw new IllegalStateException();
            }
            int done = 0;
            for (; done < n && state() == 1; done++) {
                step();
            }
            return done;
        }

        void step() {
            int[] op = ops.get(next);
            List<Integer> reads = reads(op);
            int x = reads.size() > 0 ? plain[reads.get(0)] : 0;
            int y = reads.size() > 1 ? plain[reads.get(1)] : 0;
            steps++;
            if (op[0] == 7 || op[0] == 8 && x == 0) {
                next = op[0] == 7 ? op[1] : op[2];
                return;
            }
            next++;
            if (op[0] == 9) {
                calls++;
                Arrays.fill(registers, 7777777);
            }
            if (op[0] == 10) {
                put.add(x);
            }
            if (sets(op) >= 0) {
                int[] results = {op[2], x + y, x - y, x * y, x < y ? 1 : 0, Math.max(x, y), x, 0, 0, calls};
                set(op[1], results[op[0]]);
            }
        }

        void set(int value, int number) {
            plain[value] = number;
            if (register[value] != -9) {
                registers[register[value]] = number;
            } else {
                slots[slot[value]] = number;
            }
        }

        int now(int value) {
            if (!running || !live(next, value)) {
                throw new NoSuchElementException();
            }
            return plain[value];
        }

        int of(int[] row, int many, int i) {
            if (!running || i < 0 || i >= many) {
                throw new NoSuchElementException();
            }
            return row[i];
        }

        int output(int k) {
            if (!running || k < 0 || k >= put.size() || k >= 300) {
                throw new NoSuchElementException();
            }
            return put.get(k);
        }

        int total(int what) {
            if (what < 0 || what > 8) {
                return -1;
            }
            if (what == 0) {
                return ops.size();
            }
            if (what == 8) {
                return state();
            }
            if (what <= 3 ? !scanned : !running) {
                return 0;
            }
            int with = 0;
            for (int r : register) {
                with += r != -9 ? 1 : 0;
            }
            return new int[] {0, registerCount, slotCount, with, steps, next, calls, put.size()}[what];
        }
    }

    private static final class Pair {
        final ScanMill mill = new ScanMill();
        final Model model = new Model();
        final Random random;
        final int seed;
        final int values;
        final int length;
        int calls = 0;
        int wrong = 0;

        Pair(int seed) {
            this.seed = seed;
            this.random = new Random(seed);
            this.values = 1 + random.nextInt(24);
            this.length = 1 + random.nextInt(60);
        }

        void same(String call, Call got, Call want) {
            if (calls == CALLS) {
                return;
            }
            calls++;
            String answer = outcome(got);
            String due = outcome(want);
            if (!answer.equals(due)) {
                wrong++;
                System.out.println("seed " + seed + " call " + calls + ": " + call + " answered " + answer + ", due is " + due);
            }
        }

        int about(int many) {
            int kind = random.nextInt(30);
            if (kind == 0) {
                return -1 - random.nextInt(3);
            }
            return kind == 1 ? many + random.nextInt(3) : kind == 2 ? random.nextInt() : random.nextInt(many);
        }

        int kind() {
            int draw = random.nextInt(100);
            return draw < 25 ? 0 : draw < 60 ? random.nextInt(7) : draw < 65 ? 7 : draw < 75 ? 8
                    : draw < 78 ? 9 : draw < 97 ? 10 : draw < 98 ? 11 : random.nextInt(16) - 2;
        }

        void op() {
            int kind = kind();
            int a = kind == 7 ? about(length + 1) : about(values);
            int b = kind == 0 ? (random.nextInt(4) == 0 ? random.nextInt() : random.nextInt(9) - 4)
                    : kind == 8 ? about(length + 1) : about(values);
            int c = about(values);
            same("op(" + kind + ", " + a + ", " + b + ", " + c + ")", () -> mill.op(kind, a, b, c), () -> model.op(kind, a, b, c));
        }

        void registers() {
            int many = about(9);
            same("registers(" + many + ")", () -> mill.registers(many) ? 1 : 0, () -> model.setRegisters(many) ? 1 : 0);
        }

        void scan() {
            same("scan()", mill::scan, model::scan);
        }

        void clear() {
            same("clear()", mill::clear, model::clear);
        }

        void live() {
            int k = about(model.ops.size() + 1);
            int value = about(values);
            same("live(" + k + ", " + value + ")", () -> mill.live(k, value) ? 1 : 0, () -> model.live(k, value) ? 1 : 0);
        }

        void value(int value, int what) {
            same("value(" + value + ", " + what + ")", () -> mill.value(value, what), () -> model.value(value, what));
        }

        void start() {
            same("start()", () -> {
                mill.start();
                return 0;
            }, () -> {
                model.start();
                return 0;
            });
        }

        void run() {
            int n = random.nextBoolean() ? 1 + random.nextInt(4) : about(520);
            same("run(" + n + ")", () -> mill.run(n), () -> model.run(n));
        }

        void now() {
            int value = about(values);
            same("now(" + value + ")", () -> mill.now(value), () -> model.now(value));
        }

        void register() {
            int i = about(8);
            same("register(" + i + ")", () -> mill.register(i), () -> model.of(model.registers, model.registerCount, i));
        }

        void slot() {
            int i = about(Math.max(1, model.slotCount));
            same("slot(" + i + ")", () -> mill.slot(i), () -> model.of(model.slots, model.slotCount, i));
        }

        void output() {
            int k = about(Math.max(1, model.put.size()));
            same("output(" + k + ")", () -> mill.output(k), () -> model.output(k));
        }

        void total() {
            int what = about(9);
            same("total(" + what + ")", () -> mill.total(what), () -> model.total(what));
        }

        void anyCall() {
            switch (random.nextInt(60)) {
                case 0: registers(); break;
                case 1: scan(); break;
                case 2: start(); break;
                case 3: if (random.nextInt(8) == 0) op(); break;
                case 4: if (random.nextInt(20) == 0) clear(); break;
                case 5: case 6: case 7: case 8: live(); break;
                case 9: case 10: case 11: case 12: value(about(values), about(5)); break;
                case 13: case 14: case 15: case 16: case 17: case 18: register(); break;
                case 19: case 20: case 21: case 22: slot(); break;
                case 23: case 24: case 25: case 26: output(); break;
                case 27: case 28: case 29: case 30: case 31: case 32: total(); break;
                case 33: case 34: case 35: case 36: case 37: case 38: case 39: case 40: case 41: case 42: now(); break;
                default: run(); break;
            }
        }

        int play() {
            while (model.ops.size() < length) {
                op();
            }
            registers();
            scan();
            for (int value = 0; value < values; value++) {
                for (int what = 0; what <= 4; what++) {
                    value(value, what);
                }
            }
            start();
            while (calls < CALLS) {
                anyCall();
            }
            return wrong;
        }
    }

    public static void main(String[] args) {
        int wrong = 0;
        for (int seed = 0; seed < RUNS && wrong < 50; seed++) {
            wrong += new Pair(seed).play();
        }
        System.out.println(wrong == 0 ? "all answers are as due" : wrong + " answers are not as due");
        if (wrong != 0) {
            System.exit(1);
        }
    }
}
