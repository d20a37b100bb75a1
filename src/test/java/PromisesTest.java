import java.util.NoSuchElementException;

/** Each promise by hand: ordinary inputs, the edges that the document names, wrong inputs. */
public final class PromisesTest {
    private static final long STATE = -1_000_000_000_001L;
    private static final long ARGUMENT = -1_000_000_000_002L;
    private static final long NO_SUCH = -1_000_000_000_003L;
    private static final long OTHER = -1_000_000_000_004L;
    private static final long DONE = -1_000_000_000_005L;

    private static int wrong = 0;

    private interface Call {
        long answer();
    }

    private static void due(String what, long got, long want) {
        if (got != want) {
            wrong++;
            System.out.println(what + " answered " + got + ", due is " + want);
        }
    }

    private static void due(String what, boolean got, boolean want) {
        due(what, got ? 1 : 0, want ? 1 : 0);
    }

    private static long outcome(Call call) {
        try {
            return call.answer();
        } catch (RuntimeException e) {
            return e.getClass() == IllegalStateException.class ? STATE
                    : e.getClass() == IllegalArgumentException.class ? ARGUMENT
                    : e.getClass() == NoSuchElementException.class ? NO_SUCH
                    : OTHER;
        }
    }

    private static long start(ScanMill x) {
        return outcome(() -> {
            x.start();
            return DONE;
        });
    }

    private static long run(ScanMill x, int n) {
        return outcome(() -> x.run(n));
    }

    private static long now(ScanMill x, int value) {
        return outcome(() -> x.now(value));
    }

    private static long register(ScanMill x, int i) {
        return outcome(() -> x.register(i));
    }

    private static long slot(ScanMill x, int i) {
        return outcome(() -> x.slot(i));
    }

    private static long output(ScanMill x, int k) {
        return outcome(() -> x.output(k));
    }

    private static ScanMill mill(int[]... ops) {
        ScanMill x = new ScanMill();
        for (int i = 0; i < ops.length; i++) {
            int[] op = java.util.Arrays.copyOf(ops[i], 4);
            due("op " + i, x.op(op[0], op[1], op[2], op[3]), i);
        }
        return x;
    }

    private static ScanMill started(int[]... ops) {
        ScanMill x = mill(ops);
        x.scan();
        due("start", start(x), DONE);
        return x;
    }

    private static int[] o(int... parts) {
        return parts;
    }

    private static void newObject() {
        ScanMill x = new ScanMill();
        for (int what = 0; what <= 8; what++) {
            due("1: new total " + what, x.total(what), 0);
        }
        due("1: live in nothing", x.live(0, 0), false);
        due("1: value in nothing", x.value(0, 0), -9);
        due("1: start without a scan", start(x), STATE);
        due("1: run without a run", run(x, 1), STATE);
        due("1: register without a run", register(x, 0), NO_SUCH);
        due("1: scan of nothing", x.scan(), 0);
        due("1: four registers", x.total(1), 4);
    }

    private static void opTakesAndRefuses() {
        ScanMill x = new ScanMill();
        int top = Integer.MAX_VALUE;
        int low = Integer.MIN_VALUE;
        int[][] refused = {
            {-1, 0, 0, 0}, {12, 0, 0, 0}, {top, 0, 0, 0}, {low, 0, 0, 0},
            {0, 24, 0, 0}, {0, -1, 0, 0}, {0, low, 0, 0},
            {1, 24, 0, 0}, {1, 0, 24, 0}, {1, 0, 0, 24}, {2, -1, 0, 0}, {3, 0, -1, 0}, {4, 0, 0, -1},
            {5, 0, 0, 24}, {5, top, 0, 0}, {6, 24, 0, 0}, {6, 0, 24, 0}, {6, 0, -1, 0},
            {7, 61, 0, 0}, {7, -1, 0, 0}, {8, 24, 0, 0}, {8, -1, 0, 0}, {8, 0, 61, 0}, {8, 0, -1, 0},
            {9, 24, 0, 0}, {9, -1, 0, 0}, {10, 24, 0, 0}, {10, -1, 0, 0},
        };
        for (int[] op : refused) {
            due("2: refused op " + java.util.Arrays.toString(op), x.op(op[0], op[1], op[2], op[3]), ScanMill.NONE);
        }
        due("2: refused ones change nothing", x.total(0), 0);
        int[][] taken = {
            {0, 23, low, 99}, {1, 23, 23, 23}, {2, 0, 0, 0}, {3, 1, 2, 3}, {4, 1, 2, 3}, {5, 1, 2, 3},
            {6, 23, 23, -5}, {7, 60, -5, 77}, {7, 0, 0, 0}, {8, 23, 60, -5}, {8, 0, 0, 99}, {9, 23, -5, 77},
            {10, 23, -5, 77}, {11, -5, 77, low},
        };
        for (int i = 0; i < taken.length; i++) {
            int[] op = taken[i];
            due("2: taken op " + java.util.Arrays.toString(op), x.op(op[0], op[1], op[2], op[3]), i);
        }
        for (int i = taken.length; i < 60; i++) {
            due("2: op " + i, x.op(11, 0, 0, 0), i);
        }
        due("2: a 61st", x.op(11, 0, 0, 0), ScanMill.NONE);
        due("2: sixty stand", x.total(0), 60);
    }

    private static void opDropsScanAndRun() {
        ScanMill x = started(o(0, 0, 5), o(10, 0));
        due("2: a refused op", x.op(12, 0, 0, 0), ScanMill.NONE);
        due("2: leaves the run", x.total(8), 1);
        due("2: leaves the scan", x.value(0, 0), 1);
        due("2: one op more", x.op(11, 0, 0, 0), 2);
        due("2: no run", x.total(8), 0);
        due("2: no scan", x.value(0, 0), -9);
        due("2: no registers", x.total(1), 0);
        due("2: no start", start(x), STATE);
    }

    private static void clearing() {
        ScanMill x = started(o(0, 0, 5), o(10, 0));
        x.registers(6);
        due("3: clear", x.clear(), 2);
        due("3: nothing left", x.total(0), 0);
        due("3: no run", x.total(8), 0);
        due("3: no start", start(x), STATE);
        due("3: no scan", x.value(0, 0), -9);
        due("3: nothing live", x.live(1, 0), false);
        due("3: clear again", x.clear(), 0);
        due("3: op from 0 on", x.op(10, 3, 0, 0), 0);
        due("3: live anew", x.live(0, 3), true);
        due("3: scan", x.scan(), 1);
        due("3: registers stay", x.total(1), 6);
    }

    private static void registerNumbers() {
        ScanMill x = started(o(0, 0, 5), o(10, 0));
        for (int many : new int[] {0, -1, 9, Integer.MAX_VALUE, Integer.MIN_VALUE}) {
            due("4: registers " + many, x.registers(many), false);
        }
        due("4: registers 8", x.registers(8), true);
        due("4: not before the next scan", x.total(1), 4);
        due("4: the run stays", x.total(8), 1);
        due("4: register 3", register(x, 3), 0);
        due("4: register 4", register(x, 4), NO_SUCH);
        x.scan();
        due("4: from the next scan on", x.total(1), 8);
        due("4: registers 1", x.registers(1), true);
        x.scan();
        due("4: one", x.total(1), 1);
        x.registers(0);
        x.scan();
        due("4: a wrong number changes nothing", x.total(1), 1);
    }

    private static void scanTimes() {
        // value 5 is live ahead of op 0, 1 is set and never read, 2 is read where it is set, 3 only in a dead part
        ScanMill x = mill(o(1, 2, 5, 5), o(0, 1, 9), o(1, 2, 2, 2), o(10, 2), o(11), o(10, 3));
        due("5: values that are", x.scan(), 4);
        due("5: first of one live at 0", x.value(5, 0), -1);
        due("5: last of one live at 0", x.value(5, 1), 0);
        due("5: first of one never read", x.value(1, 0), 3);
        due("5: last of one never read", x.value(1, 1), 3);
        due("5: first of 2", x.value(2, 0), 1);
        due("5: last of 2", x.value(2, 1), 6);
        due("5: first in a dead part", x.value(3, 0), 10);
        due("5: last in a dead part", x.value(3, 1), 10);
        due("5: 5 has register 0", x.value(5, 2), 0);
        due("5: 2 gets it after 5", x.value(2, 2), 0);
        due("5: 1 gets the next", x.value(1, 2), 1);
        due("5: 3 gets the least", x.value(3, 2), 0);
        due("5: no slots", x.total(2), 0);
        due("5: with registers", x.total(3), 4);
        start(x);
        due("5: scan again", x.scan(), 4);
        due("5: no run then", x.total(8), 0);
    }

    private static void scanTakesRegisters() {
        // lasts: 0 -> 12, 1 -> 14, 2 -> 10, 3 -> 16, 4 -> 9
        ScanMill x = mill(o(0, 0, 10), o(0, 1, 11), o(0, 2, 12), o(0, 3, 13), o(0, 4, 0),
                o(10, 2), o(10, 0), o(10, 1), o(10, 3));
        x.registers(2);
        due("5: all are", x.scan(), 5);
        due("5: 0 keeps its register until 4 comes", x.value(0, 2), -9);
        due("5: 1 loses its register to 2", x.value(1, 2), -9);
        due("5: 2 takes that of the greatest last", x.value(2, 2), 1);
        due("5: 3 gets none", x.value(3, 2), -9);
        due("5: 4 takes register 0 of 0", x.value(4, 2), 0);
        due("5: slot of 0", x.value(0, 3), 0);
        due("5: slot of 1", x.value(1, 3), 1);
        due("5: slot of 3", x.value(3, 3), 2);
        due("5: no slot of 2", x.value(2, 3), -9);
        due("5: slots", x.total(2), 3);
        due("5: with registers", x.total(3), 2);
    }

    private static void scanTies() {
        // 0 and 1 both last until 8 (a loop), 2 ends earlier: the greatest register is the one that is lost
        ScanMill x = mill(o(0, 2, 1), o(10, 2), o(1, 3, 0, 1), o(10, 3), o(7, 0));
        x.registers(2);
        x.scan();
        due("5: tie first", x.value(0, 0), -1);
        due("5: tie last of 0", x.value(0, 1), 8);
        due("5: tie last of 1", x.value(1, 1), 8);
        due("5: 0 keeps", x.value(0, 2), 0);
        due("5: 1 loses", x.value(1, 2), -9);
        due("5: 2 gets the greatest register", x.value(2, 2), 1);
        due("5: 3 gets it next", x.value(3, 2), 1);
        due("5: 1 has slot 0", x.value(1, 3), 0);
        ScanMill same = mill(o(1, 2, 0, 1));
        same.registers(1);
        same.scan();
        due("5: the same last keeps its register", same.value(0, 2), 0);
        due("5: the same last gets none", same.value(1, 2), -9);
        due("5: same first and last, by number", same.value(1, 3), 0);
    }

    private static void scanOverCalls() {
        // 0 is over the call; 1 ends at it, 2 begins with it; 3 is set by it and was there before
        ScanMill x = mill(o(0, 0, 1), o(0, 3, 4), o(10, 3), o(8, 1, 4), o(9, 2), o(9, 3), o(10, 0), o(10, 2));
        x.scan();
        due("5: 0 is over", x.value(0, 4), 1);
        due("5: 0 has no register", x.value(0, 2), -9);
        due("5: 0 has a slot", x.value(0, 3), 0);
        due("5: 1 is not over", x.value(1, 4), 0);
        due("5: 1 has a register", x.value(1, 2), 0);
        due("5: 2 is over the second call", x.value(2, 4), 1);
        due("5: 2's slot", x.value(2, 3), 2);
        due("5: 3 ends by the call that sets it", x.value(3, 1), 11);
        due("5: 3 is over", x.value(3, 4), 1);
        due("5: 3's slot", x.value(3, 3), 1);
        ScanMill y = mill(o(9, 2), o(10, 2));
        y.scan();
        due("5: what a call sets begins behind it", y.value(2, 4), 0);
        due("5: and has a register", y.value(2, 2), 0);
        ScanMill z = mill(o(10, 4), o(9, 4));
        z.scan();
        due("5: from -1 to 3 over the call at 1", z.value(4, 4), 1);
        ScanMill w = mill(o(6, 0, 1), o(9, 2), o(2, 5, 3, 3), o(9, 2));
        w.scan();
        due("5: -1 over a call", w.value(3, 4), 1);
        due("5: 1 before the calls", w.value(1, 4), 0);
    }

    private static void slotsAgain() {
        // 0 is over the call at 1, 1 over the call at 4: slot 0 again, as 0's last is below 1's first
        ScanMill x = mill(o(0, 0, 1), o(9, 5), o(10, 0), o(0, 1, 2), o(9, 5), o(10, 1));
        x.scan();
        due("5: slot 0", x.value(0, 3), 0);
        due("5: 5 is over a call and overlaps 0", x.value(5, 3), 1);
        due("5: slot 0 again", x.value(1, 3), 0);
        due("5: two slots", x.total(2), 2);
        // 0 is last read where 1 is set: 4 below 5
        ScanMill y = mill(o(0, 0, 1), o(9, 5), o(6, 1, 0), o(9, 6), o(10, 1));
        y.scan();
        due("5: read and set by one op share a slot", y.value(1, 3), 0);
        due("5: read and set by one op, the first", y.value(0, 3), 0);
    }

    private static void living() {
        ScanMill x = mill(o(8, 0, 3), o(0, 1, 5), o(7, 4), o(10, 2), o(10, 1), o(6, 3, 3), o(11), o(10, 4));
        due("6: read at once", x.live(0, 0), true);
        due("6: by the far end of an 8", x.live(0, 2), true);
        due("6: around what sets it", x.live(0, 1), true);
        due("6: set ahead of the read", x.live(1, 1), false);
        due("6: behind the set", x.live(2, 1), true);
        due("6: not by a 7's next", x.live(2, 2), false);
        due("6: read where it is set", x.live(0, 3), true);
        due("6: not behind it", x.live(6, 3), false);
        due("6: not over an end", x.live(6, 4), false);
        due("6: behind the end", x.live(7, 4), true);
        due("6: at the row's end", x.live(8, 4), false);
        due("6: beyond it", x.live(9, 4), false);
        due("6: k -1", x.live(-1, 0), false);
        due("6: k great", x.live(Integer.MAX_VALUE, 0), false);
        due("6: value -1", x.live(0, -1), false);
        due("6: value 24", x.live(0, 24), false);
        due("6: value 32", x.live(0, 32), false);
        due("6: value -32", x.live(0, -32), false);
        ScanMill y = mill(o(7, 2));
        due("6: at an op that there is not", y.live(0, 1), false);
        y.op(11, 0, 0, 0);
        y.op(10, 1, 0, 0);
        due("6: now that there is", y.live(0, 1), true);
        ScanMill z = mill(o(7, 0), o(10, 1));
        due("6: a turn without an end", z.live(0, 1), false);
    }

    /** A way that goes up the row: each op is reached from the one behind it only. */
    private static void livingUphill() {
        ScanMill x = new ScanMill();
        x.op(10, 7, 0, 0);
        x.op(11, 0, 0, 0);
        for (int k = 2; k < 60; k++) {
            x.op(7, k == 2 ? 0 : k - 1, 0, 0);
        }
        due("6: uphill", x.live(59, 7), true);
        ScanMill y = new ScanMill();
        for (int k = 0; k < 59; k++) {
            y.op(7, k + 1, 0, 0);
        }
        y.op(10, 7, 0, 0);
        due("6: downhill", y.live(0, 7), true);
        due("6: at 60 of 60", y.live(60, 7), false);
    }

    private static void values() {
        ScanMill x = mill(o(0, 0, 5), o(10, 0));
        due("7: not scanned", x.value(0, 0), -9);
        x.scan();
        due("7: first", x.value(0, 0), 1);
        due("7: last", x.value(0, 1), 2);
        due("7: register", x.value(0, 2), 0);
        due("7: no slot", x.value(0, 3), -9);
        due("7: over no call", x.value(0, 4), 0);
        for (int what : new int[] {-1, 5, Integer.MIN_VALUE, Integer.MAX_VALUE}) {
            due("7: what " + what, x.value(0, what), -9);
        }
        for (int value : new int[] {-1, 1, 23, 24, Integer.MIN_VALUE, Integer.MAX_VALUE}) {
            for (int what = 0; what <= 4; what++) {
                due("7: value " + value + " what " + what, x.value(value, what), -9);
            }
        }
        x.live(0, 0);
        due("7: live leaves the scan", x.value(0, 0), 1);
    }

    private static void starting() {
        ScanMill x = mill(o(10, 1), o(0, 1, 5), o(7, 0));
        due("8: not scanned", start(x), STATE);
        x.scan();
        due("8: no run by a scan", x.total(8), 0);
        due("8: start", start(x), DONE);
        due("8: under way", x.total(8), 1);
        due("8: next", x.total(5), 0);
        due("8: run", run(x, 4), 4);
        due("8: second number", output(x, 1), 5);
        due("8: start again", start(x), DONE);
        due("8: no steps", x.total(4), 0);
        due("8: nothing put out", x.total(7), 0);
        due("8: nothing kept", output(x, 0), NO_SUCH);
        due("8: 0 at first", now(x, 1), 0);
        due("8: registers are 0", register(x, 0), 0);
        ScanMill y = new ScanMill();
        y.scan();
        due("8: start of nothing", start(y), DONE);
        due("8: at its end at once", y.total(8), 2);
        due("8: so it is over", run(y, 1), STATE);
    }

    private static void runArguments() {
        ScanMill x = mill(o(10, 1), o(7, 0));
        for (int n : new int[] {0, -1, 501, Integer.MAX_VALUE, Integer.MIN_VALUE}) {
            due("9: wrong n without a run " + n, run(x, n), ARGUMENT);
        }
        due("9: no run", run(x, 500), STATE);
        x.scan();
        due("9: scanned alone", run(x, 1), STATE);
        start(x);
        due("9: wrong n in a run", run(x, 501), ARGUMENT);
        due("9: one", run(x, 1), 1);
        due("9: next", x.total(5), 1);
        due("9: most", run(x, 500), 500);
        due("9: steps", x.total(4), 501);
    }

    private static void runReckons() {
        int low = Integer.MIN_VALUE;
        int top = Integer.MAX_VALUE;
        ScanMill x = started(
                o(0, 0, top), o(0, 1, 2), o(0, 2, low),
                o(1, 3, 0, 1), o(10, 3), o(2, 3, 2, 1), o(10, 3), o(3, 3, 0, 1), o(10, 3),
                o(4, 3, 2, 0), o(10, 3), o(4, 3, 0, 2), o(10, 3), o(4, 3, 1, 1), o(10, 3),
                o(5, 3, 1, 2), o(10, 3), o(5, 3, 1, 0), o(10, 3), o(6, 3, 1), o(10, 3),
                o(2, 3, 1, 0), o(10, 3), o(9, 3), o(10, 3), o(9, 3), o(10, 3));
        due("9: all", run(x, 500), 27);
        int[] want = {low + 1, top - 1, -2, 1, 0, 0, 2, top, 2, 2 - top, 1, 2};
        due("9: numbers", x.total(7), want.length);
        for (int k = 0; k < want.length; k++) {
            due("9: number " + k, output(x, k), want[k]);
        }
        due("9: calls", x.total(6), 2);
    }

    private static void runWays() {
        ScanMill x = started(o(8, 0, 2), o(10, 0), o(0, 0, 3), o(8, 0, 6), o(7, 60), o(10, 0), o(10, 0));
        due("9: ways", run(x, 500), 4);
        due("9: at its end", x.total(8), 2);
        due("9: where", x.total(5), 60);
        due("9: nothing put out", x.total(7), 0);
        due("9: over", run(x, 1), STATE);
        ScanMill y = started(o(11));
        due("9: an end at first", y.total(8), 2);
        due("9: is no step", run(y, 1), STATE);
        ScanMill z = started(o(0, 0, 1), o(11), o(10, 0));
        due("9: one step", run(z, 2), 1);
        due("9: before an end", z.total(5), 1);
        due("9: there it is over", z.total(8), 2);
        ScanMill w = started(o(0, 0, 1));
        run(w, 1);
        due("9: behind the last", w.total(5), 1);
        due("9: is the end", w.total(8), 2);
    }

    private static void runStepsEnd() {
        ScanMill x = started(o(10, 1), o(7, 0));
        for (int i = 0; i < 6; i++) {
            due("9: under way", x.total(8), 1);
            due("9: five hundred", run(x, 500), 500);
        }
        due("9: over by steps", x.total(8), 3);
        due("9: 3000", x.total(4), 3000);
        due("9: over", run(x, 1), STATE);
        due("10: still live", now(x, 1), 0);
        due("14: all put out", x.total(7), 1500);
    }

    /** A row whose 3000th step leads to its end is at its end, not out of steps. */
    private static void runEndsWithTheSteps() {
        // 2 + 4 * (n - 1) + 2 steps: n = 750 makes 3000
        ScanMill x = started(o(0, 0, 750), o(0, 1, 1), o(2, 0, 0, 1), o(8, 0, 6), o(6, 2, 0), o(7, 2));
        for (int i = 0; i < 6; i++) {
            due("9: part", run(x, 500), 500);
        }
        due("9: steps of all", x.total(4), 3000);
        due("9: at its end with its last step", x.total(8), 2);
        ScanMill y = started(o(0, 0, 751), o(0, 1, 1), o(2, 0, 0, 1), o(8, 0, 6), o(6, 2, 0), o(7, 2));
        for (int i = 0; i < 6; i++) {
            due("9: part", run(y, 500), 500);
        }
        due("9: out of steps", y.total(8), 3);
    }

    private static void nows() {
        ScanMill x = mill(o(0, 0, 5), o(9, 1), o(1, 2, 0, 1), o(10, 2));
        due("10: no run", now(x, 0), NO_SUCH);
        x.scan();
        due("10: scanned alone", now(x, 0), NO_SUCH);
        start(x);
        due("10: not yet live", now(x, 0), NO_SUCH);
        run(x, 1);
        due("10: live", now(x, 0), 5);
        due("10: not live", now(x, 1), NO_SUCH);
        run(x, 1);
        due("10: over the call", now(x, 0), 5);
        due("10: by the call", now(x, 1), 1);
        for (int value : new int[] {-1, 24, 32, Integer.MAX_VALUE, Integer.MIN_VALUE}) {
            due("10: value " + value, now(x, value), NO_SUCH);
        }
        run(x, 1);
        due("10: no longer live", now(x, 0), NO_SUCH);
        due("10: sum", now(x, 2), 6);
        run(x, 1);
        due("10: at the end", now(x, 2), NO_SUCH);
    }

    private static void registersAndSlots() {
        ScanMill x = mill(o(0, 0, 5), o(0, 1, 6), o(10, 1), o(9, 2), o(10, 0));
        x.registers(2);
        due("11: no run", register(x, 0), NO_SUCH);
        due("12: no run", slot(x, 0), NO_SUCH);
        x.scan();
        due("11: scanned alone", register(x, 0), NO_SUCH);
        due("12: scanned alone", slot(x, 0), NO_SUCH);
        start(x);
        due("11: 0 at first", register(x, 0), 0);
        due("12: 0 at first", slot(x, 0), 0);
        run(x, 2);
        due("11: register 0", register(x, 0), 6);
        due("11: register 1", register(x, 1), 0);
        due("12: slot 0", slot(x, 0), 5);
        run(x, 2);
        due("11: what the call sets", register(x, 0), 1);
        due("11: what the call spoils", register(x, 1), 7777777);
        due("12: what it leaves", slot(x, 0), 5);
        for (int i : new int[] {ScanMill.NONE, 2, 8, Integer.MAX_VALUE, Integer.MIN_VALUE}) {
            due("11: register " + i, register(x, i), NO_SUCH);
        }
        for (int i : new int[] {ScanMill.NONE, 1, 24, Integer.MAX_VALUE, Integer.MIN_VALUE}) {
            due("12: slot " + i, slot(x, i), NO_SUCH);
        }
        start(x);
        due("11: 0 again", register(x, 1), 0);
        due("12: 0 again", slot(x, 0), 0);
    }

    private static void allSlots() {
        ScanMill x = new ScanMill();
        for (int value = 0; value < 24; value++) {
            x.op(0, value, 100 + value, 0);
        }
        x.op(9, 0, 0, 0);
        for (int value = 0; value < 24; value++) {
            x.op(10, value, 0, 0);
        }
        due("12: all are", x.scan(), 24);
        due("12: all have slots", x.total(2), 24);
        due("12: none has a register", x.total(3), 0);
        start(x);
        run(x, 500);
        due("12: slot 23", slot(x, 23), 123);
        due("12: slot 24", slot(x, 24), NO_SUCH);
        due("12: slot 0", slot(x, 0), 1);
        due("13: last", output(x, 23), 123);
    }

    private static void outputs() {
        ScanMill x = mill(o(10, 0), o(0, 1, 1), o(1, 0, 0, 1), o(7, 0));
        due("13: no run", output(x, 0), NO_SUCH);
        x.scan();
        start(x);
        due("13: none yet", output(x, 0), NO_SUCH);
        run(x, 5);
        due("13: first", output(x, 0), 0);
        due("13: second", output(x, 1), 1);
        due("13: not a third", output(x, 2), NO_SUCH);
        due("13: -1", output(x, -1), NO_SUCH);
        run(x, 500);
        run(x, 500);
        run(x, 500);
        due("14: more than are kept", x.total(7), 377);
        due("13: the 300th", output(x, 299), 299);
        due("13: the first stays", output(x, 0), 0);
        due("13: one that is not kept", output(x, 300), NO_SUCH);
        due("13: great", output(x, Integer.MAX_VALUE), NO_SUCH);
    }

    private static void totals() {
        ScanMill x = mill(o(0, 0, 5), o(9, 1), o(10, 0), o(7, 1));
        due("14: ops", x.total(0), 4);
        for (int what = 1; what <= 8; what++) {
            due("14: nothing scanned " + what, x.total(what), 0);
        }
        x.registers(3);
        x.scan();
        due("14: registers", x.total(1), 3);
        due("14: slots", x.total(2), 1);
        due("14: with registers", x.total(3), 1);
        for (int what = 4; what <= 8; what++) {
            due("14: no run " + what, x.total(what), 0);
        }
        start(x);
        run(x, 6);
        due("14: steps", x.total(4), 6);
        due("14: next", x.total(5), 3);
        due("14: calls", x.total(6), 2);
        due("14: numbers", x.total(7), 2);
        due("14: under way", x.total(8), 1);
        for (int what : new int[] {-1, 9, Integer.MAX_VALUE, Integer.MIN_VALUE}) {
            due("14: what " + what, x.total(what), ScanMill.NONE);
        }
    }

    public static void main(String[] args) {
        newObject();
        opTakesAndRefuses();
        opDropsScanAndRun();
        clearing();
        registerNumbers();
        scanTimes();
        scanTakesRegisters();
        scanTies();
        scanOverCalls();
        slotsAgain();
        living();
        livingUphill();
        values();
        starting();
        runArguments();
        runReckons();
        runWays();
        runStepsEnd();
        runEndsWithTheSteps();
        nows();
        registersAndSlots();
        allSlots();
        outputs();
        totals();
        System.out.println(wrong == 0 ? "all answers are as due" : wrong + " answers are not as due");
        if (wrong != 0) {
            System.exit(1);
        }
    }
}
