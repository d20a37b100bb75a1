/**
 * The document's boundary cases, sentence by sentence: each test names its promise, quotes the
 * sentence (or the part of it) that it is about, and is a run of calls with the answers due.
 *
 * A test's calls stand on lines of their own or behind ";". "3 * op 11" is a call made three times,
 * "new" takes a new object, "= 5" behind a call is the answer due (an exception by its plain name,
 * "done" for start); without it any answer will do, but no exception. Arguments of op that are left
 * out are 0. MIN, MAX and NONE are Java's least and greatest int and -1.
 */
public final class BoundariesTest {
    private static final int MOST_CALLS = 512;

    private static int tests = 0;
    private static int failed = 0;

    private static void boundary(String promise, String sentence, String calls) {
        boundary(promise, sentence, "", calls);
    }

    private static void boundary(String promise, String sentence, String edge, String calls) {
        tests++;
        String fault = new Run().play(calls);
        if (fault != null) {
            failed++;
            System.out.println(promise + ", \"" + sentence + "\"" + (edge.isEmpty() ? "" : " (" + edge + ")") + ": " + fault);
        }
    }

    /** One test's calls, up to the first wrong answer. */
    private static final class Run {
        private ScanMill mill = new ScanMill();
        private int made = 0;

        String play(String calls) {
            for (String line : calls.split("[;\n]")) {
                if (!line.isBlank()) {
                    String fault = playLine(line.trim());
                    if (fault != null) {
                        return fault;
                    }
                }
            }
            return null;
        }

        private String playLine(String line) {
            String[] sides = line.split(" = ");
            String[] parts = sides[0].split(" \\* ");
            int times = parts.length == 2 ? Integer.parseInt(parts[0]) : 1;
            String[] words = parts[parts.length - 1].trim().split(" +");
            for (int i = 0; i < times; i++) {
                String answer = answer(words);
                boolean right = sides.length == 2 ? answer.equals(number(sides[1].trim())) : !answer.endsWith("Exception");
                if (!right) {
                    return line + " answered " + answer;
                }
                if (made > MOST_CALLS) {
                    return line + " is beyond an object's " + MOST_CALLS + " calls";
                }
            }
            return null;
        }

        private String answer(String[] words) {
            int[] args = new int[4];
            for (int i = 1; i < words.length; i++) {
                args[i - 1] = Integer.parseInt(number(words[i]));
            }
            try {
                return String.valueOf(call(words[0], args));
            } catch (RuntimeException e) {
                return e.getClass().getSimpleName();
            }
        }

        private Object call(String name, int[] args) {
            made++;
            switch (name) {
                case "new":
                    mill = new ScanMill();
                    made = 0;
                    return "done";
                case "start":
                    mill.start();
                    return "done";
                case "op": return mill.op(args[0], args[1], args[2], args[3]);
                case "clear": return mill.clear();
                case "registers": return mill.registers(args[0]);
                case "scan": return mill.scan();
                case "live": return mill.live(args[0], args[1]);
                case "value": return mill.value(args[0], args[1]);
                case "run": return mill.run(args[0]);
                case "now": return mill.now(args[0]);
                case "register": return mill.register(args[0]);
                case "slot": return mill.slot(args[0]);
                case "output": return mill.output(args[0]);
                case "total": return mill.total(args[0]);
                default: throw new Error("no such call: " + name);
            }
        }

        private static String number(String word) {
            switch (word) {
                case "MIN": return String.valueOf(Integer.MIN_VALUE);
                case "MAX": return String.valueOf(Integer.MAX_VALUE);
                case "NONE": return "-1";
                default: return word;
            }
        }
    }

    private static final String NO_RUN = """
            total 8 = 0
            total 4 = 0; total 5 = 0; total 6 = 0; total 7 = 0
            run 1 = IllegalStateException
            now 0 = NoSuchElementException
            register 0 = NoSuchElementException
            slot 0 = NoSuchElementException
            output 0 = NoSuchElementException
            """;

    private static final String NOTHING_SCANNED = """
            total 1 = 0; total 2 = 0; total 3 = 0
            value 0 0 = -9; value 0 1 = -9; value 0 2 = -9; value 0 3 = -9; value 0 4 = -9
            start = IllegalStateException
            """;

    /** A run that has a register, a slot and a live value in use, and has counted all there is. */
    private static final String BUSY_RUN = """
            op 0 0 5 = 0; op 9 1 = 1; op 10 0 = 2; op 10 1 = 3; op 7 1 = 4
            scan = 2; start = done; run 6 = 6
            """;

    private static final String BUSY_RUN_GOES_ON = """
            total 0 = 5; total 1 = 4; total 2 = 1; total 3 = 1
            total 4 = 6; total 5 = 2; total 6 = 2; total 7 = 2; total 8 = 1
            value 0 0 = 1; value 0 1 = 8; value 0 2 = -9; value 0 3 = 0; value 0 4 = 1
            value 1 0 = 3; value 1 1 = 6; value 1 2 = 0; value 1 3 = -9; value 1 4 = 0
            live 2 0 = true; live 4 0 = true; live 5 0 = false
            now 0 = 5; now 1 = 2; register 0 = 2; register 3 = 7777777; slot 0 = 5
            output 0 = 5; output 1 = 1; output 2 = NoSuchElementException
            run 2 = 2; output 3 = 2; total 5 = 4
            """;

    /** All values are live ahead of op 0. */
    private static final String READ_ALL = """
            op 10 0; op 10 1; op 10 2; op 10 3; op 10 4; op 10 5; op 10 6; op 10 7
            op 10 8; op 10 9; op 10 10; op 10 11; op 10 12; op 10 13; op 10 14; op 10 15
            op 10 16; op 10 17; op 10 18; op 10 19; op 10 20; op 10 21; op 10 22; op 10 23
            """;

    /** Each round of four steps puts the next number out: 0, 1, .. */
    private static final String COUNT_UP = """
            op 10 0; op 0 1 1; op 1 0 0 1; op 7 0
            scan; start
            """;

    private static void newObject() {
        boundary("Promise 1", "No OPS", """
                total 0 = 0
                live 0 0 = false
                clear = 0
                new; scan = 0
                new; op 11 = 0
                """);
        boundary("Promise 1", "four REGISTERS", """
                scan = 0; total 1 = 4; start = done
                register 3 = 0; register 4 = NoSuchElementException
                new; op 10 0; op 10 1; op 10 2; op 10 3; op 10 4
                scan = 5; total 3 = 4; total 2 = 1; value 3 2 = 3; value 4 2 = -9; value 4 3 = 0
                """);
        boundary("Promise 1", "no RUN", NO_RUN);
        boundary("Promise 1", "A new object", "nothing was SCANNED", NOTHING_SCANNED);
        boundary("Promise 1", "An object is used for at most 512 calls after it has been made", "the last of them", """
                500 * total 0 = 0; op 0 0 5 = 0; op 9 1 = 1; op 10 0 = 2; registers 1 = true; scan = 2; start = done
                run 500 = 3; output 0 = 5; slot 0 = 5; register 0 = 1; now 0 = NoSuchElementException; clear = 3
                """);
    }

    private static void opNumbersAndKinds() {
        boundary("Promise 2", "OPS are 0, 1, .. (60 at most), one behind the other", """
                op 0 0 1 = 0; op 1 0 0 0 = 1; op 11 = 2; op 7 0 = 3
                55 * op 11; op 11 = 59; total 0 = 60
                """);
        boundary("Promise 2", "NONE, changing nothing, if there are 60", """
                58 * op 11; op 10 0 = 58; total 0 = 59; op 10 1 = 59
                op 11 = NONE; op 0 0 0 = NONE; op 10 2 = NONE; op 7 60 = NONE
                total 0 = 60; live 58 0 = true; live 59 1 = true; live 58 2 = false; live 59 2 = false
                clear = 60
                """);
        boundary("Promise 2", "there is no such kind", """
                op -1 = NONE; op 12 = NONE; op 13 = NONE; op MIN = NONE; op MAX = NONE
                total 0 = 0
                op 0 = 0; op 1 = 1; op 2 = 2; op 3 = 3; op 4 = 4; op 5 = 5
                op 6 = 6; op 7 = 7; op 8 = 8; op 9 = 9; op 10 = 10; op 11 = 11
                """);
        boundary("Promise 2", "11: nothing (others of a, b, c count for nothing)", """
                op 11 MIN -1 MAX = 0; op 11 24 61 24 = 1; op 11 1 2 3 = 2; scan = 0
                """);
    }

    private static void opValues() {
        boundary("Promise 2", "there is no such kind or VALUE", "v of 0", """
                op 0 -1 0 0 = NONE; op 0 24 0 0 = NONE; op 0 MIN 0 0 = NONE; op 0 MAX 0 0 = NONE
                total 0 = 0; op 0 0 0 0 = 0; op 0 23 0 0 = 1
                """);
        for (int kind = 1; kind <= 5; kind++) {
            boundary("Promise 2", "there is no such kind or VALUE", "v, x, y of 1 .. 5", """
                    op K -1 0 0 = NONE; op K 24 0 0 = NONE; op K MIN 0 0 = NONE; op K MAX 0 0 = NONE
                    op K 0 -1 0 = NONE; op K 0 24 0 = NONE; op K 0 MIN 0 = NONE; op K 0 MAX 0 = NONE
                    op K 0 0 -1 = NONE; op K 0 0 24 = NONE; op K 0 0 MIN = NONE; op K 0 0 MAX = NONE
                    total 0 = 0; op K 0 23 23 = 0; op K 23 0 0 = 1; op K 23 23 23 = 2; op K 0 0 0 = 3
                    """.replace("K", String.valueOf(kind)));
        }
        boundary("Promise 2", "there is no such kind or VALUE", "v, x of 6", """
                op 6 -1 0 = NONE; op 6 24 0 = NONE; op 6 MIN 0 = NONE; op 6 MAX 0 = NONE
                op 6 0 -1 = NONE; op 6 0 24 = NONE; op 6 0 MIN = NONE; op 6 0 MAX = NONE
                total 0 = 0; op 6 0 23 = 0; op 6 23 0 = 1
                """);
        boundary("Promise 2", "there is no such kind or VALUE", "x of 8", """
                op 8 -1 0 = NONE; op 8 24 0 = NONE; op 8 60 0 = NONE; op 8 MIN 0 = NONE; op 8 MAX 0 = NONE
                total 0 = 0; op 8 0 0 = 0; op 8 23 0 = 1
                """);
        boundary("Promise 2", "there is no such kind or VALUE", "v of 9", """
                op 9 -1 = NONE; op 9 24 = NONE; op 9 MIN = NONE; op 9 MAX = NONE
                total 0 = 0; op 9 0 = 0; op 9 23 = 1
                """);
        boundary("Promise 2", "there is no such kind or VALUE", "x of 10", """
                op 10 -1 = NONE; op 10 24 = NONE; op 10 MIN = NONE; op 10 MAX = NONE
                total 0 = 0; op 10 0 = 0; op 10 23 = 1
                """);
    }

    private static void opTargets() {
        boundary("Promise 2", "or t is not 0 .. 60", "t of 7", """
                op 7 -1 = NONE; op 7 61 = NONE; op 7 MIN = NONE; op 7 MAX = NONE
                total 0 = 0; op 7 0 = 0; op 7 60 = 1; op 7 59 = 2; op 7 24 = 3
                """);
        boundary("Promise 2", "or t is not 0 .. 60", "t of 8", """
                op 8 0 -1 = NONE; op 8 0 61 = NONE; op 8 0 MIN = NONE; op 8 0 MAX = NONE
                total 0 = 0; op 8 0 0 = 0; op 8 0 60 = 1; op 8 0 59 = 2; op 8 0 24 = 3
                """);
    }

    private static void opOthersCountForNothing() {
        boundary("Promise 2", "others of a, b, c count for nothing", "c of 0", """
                op 0 0 1 MIN = 0; op 0 0 MAX 24 = 1; op 0 0 1 5 = 2; live 0 1 = false; live 2 5 = false; scan = 1
                """);
        boundary("Promise 2", "others of a, b, c count for nothing", "c of 6", """
                op 6 0 1 -1 = 0; op 6 0 1 MAX = 1; op 6 0 1 5 = 2; live 0 5 = false; scan = 2
                """);
        boundary("Promise 2", "others of a, b, c count for nothing", "b, c of 7", """
                op 7 60 -1 MIN = 0; op 7 60 61 24 = 1; op 7 3 5 6 = 2; live 2 3 = false; live 2 5 = false; scan = 0
                """);
        boundary("Promise 2", "others of a, b, c count for nothing", "c of 8", """
                op 8 0 60 -1 = 0; op 8 0 60 MAX = 1; op 8 0 1 5 = 2; live 0 1 = false; live 0 5 = false; scan = 1
                """);
        boundary("Promise 2", "others of a, b, c count for nothing", "b, c of 9", """
                op 9 0 -1 MIN = 0; op 9 0 61 24 = 1; op 9 0 5 6 = 2; live 0 5 = false; live 0 6 = false; scan = 1
                """);
        boundary("Promise 2", "others of a, b, c count for nothing", "b, c of 10", """
                op 10 0 -1 MIN = 0; op 10 0 61 24 = 1; op 10 0 5 6 = 2; live 0 5 = false; live 0 6 = false; scan = 1
                """);
    }

    private static void opAndTheRun() {
        boundary("Promise 2", "NONE, changing nothing", "no such kind", BUSY_RUN + "op 12 = NONE; op -1 = NONE\n" + BUSY_RUN_GOES_ON);
        boundary("Promise 2", "NONE, changing nothing", "no such VALUE",
                BUSY_RUN + "op 0 24 = NONE; op 1 0 0 -1 = NONE; op 10 24 = NONE\n" + BUSY_RUN_GOES_ON);
        boundary("Promise 2", "NONE, changing nothing", "t is not 0 .. 60", BUSY_RUN + "op 7 61 = NONE; op 8 0 -1 = NONE\n" + BUSY_RUN_GOES_ON);
        boundary("Promise 2", "NONE, changing nothing, if there are 60", "the RUN goes on", """
                op 10 0; 59 * op 11; scan = 1; start = done; run 1 = 1
                op 11 = NONE
                total 8 = 2; total 4 = 1; output 0 = 0; value 0 0 = -1; total 1 = 4; start = done; run 5 = 1
                """);
        boundary("Promise 2", "(What was SCANNED and the RUN are gone.)", BUSY_RUN + "op 11 = 5\n" + NO_RUN + NOTHING_SCANNED + "total 0 = 6");
        boundary("Promise 2", "(What was SCANNED and the RUN are gone.)", "of a row without OPS", """
                scan = 0; start = done; op 11 = 0
                total 8 = 0; total 1 = 0; start = IllegalStateException
                """);
        boundary("Promise 2", "(What was SCANNED and the RUN are gone.)", "by the 60th OP too", """
                59 * op 11; scan = 0; start = done; op 11 = 59
                total 8 = 0; total 1 = 0; start = IllegalStateException
                """);
    }

    private static void clearing() {
        boundary("Promise 3", "how many there were", """
                clear = 0; op 11 = 0; clear = 1; clear = 0
                60 * op 11; clear = 60; clear = 0
                """);
        boundary("Promise 3", "how many there were", "a refused op is none of them", """
                op 12 = NONE; op 10 24 = NONE; clear = 0
                """);
        boundary("Promise 3", "All OPS are gone", """
                op 10 0 = 0; op 10 1 = 1; live 0 0 = true; live 1 1 = true
                clear = 2; total 0 = 0; live 0 0 = false; live 1 1 = false; scan = 0
                op 11 = 0; live 1 1 = false; scan = 0
                59 * op 11; total 0 = 60; op 11 = NONE
                """);
        boundary("Promise 3", "what was SCANNED and the RUN, too", BUSY_RUN + "clear = 5\n" + NO_RUN + NOTHING_SCANNED);
        boundary("Promise 3", "what was SCANNED and the RUN, too", "of a row without OPS",
                "scan = 0; start = done; total 8 = 2; clear = 0\n" + NO_RUN + NOTHING_SCANNED);
        boundary("Promise 3", "All OPS are gone", "the number of REGISTERS is not said to be", """
                registers 2 = true; clear = 0; scan = 0; total 1 = 2
                """);
    }

    private static void registerNumbers() {
        boundary("Promise 4", "R REGISTERS (1 .. 8; 4 at first)", """
                scan; total 1 = 4
                registers 1 = true; scan; total 1 = 1; registers 2 = true; scan; total 1 = 2
                registers 3 = true; scan; total 1 = 3; registers 4 = true; scan; total 1 = 4
                registers 5 = true; scan; total 1 = 5; registers 6 = true; scan; total 1 = 6
                registers 7 = true; scan; total 1 = 7; registers 8 = true; scan; total 1 = 8
                """);
        boundary("Promise 4", "false for another number", "too small", """
                registers 0 = false; registers -1 = false; registers MIN = false; scan; total 1 = 4
                """);
        boundary("Promise 4", "false for another number", "too large", """
                registers 9 = false; registers 10 = false; registers MAX = false; scan; total 1 = 4
                """);
        boundary("Promise 4", "false for another number", "the one before stays", """
                registers 7 = true; registers 9 = false; registers 0 = false; scan; total 1 = 7
                """);
        boundary("Promise 4", "false for another number", "what was SCANNED and the RUN stay",
                BUSY_RUN + "registers 9 = false; registers 0 = false\n" + BUSY_RUN_GOES_ON);
        boundary("Promise 4", "So many REGISTERS from the next scan() on", BUSY_RUN + "registers 8 = true\n" + BUSY_RUN_GOES_ON + """
                register 4 = NoSuchElementException; start = done; register 4 = NoSuchElementException; total 1 = 4
                scan = 2; total 1 = 8; start = done; register 7 = 0
                """);
        boundary("Promise 4", "So many REGISTERS from the next scan() on", "and not for one scan() alone", """
                registers 1 = true; scan; scan; total 1 = 1; op 11; scan; total 1 = 1; clear; scan; total 1 = 1
                """);
        boundary("Promise 4", "R REGISTERS (1 .. 8; 4 at first)", "one REGISTER holds one VALUE, eight hold eight", READ_ALL + """
                registers 1 = true; scan = 24; total 3 = 1; total 2 = 23; value 0 2 = 0; value 1 2 = -9; value 1 3 = 0
                registers 8 = true; scan = 24; total 3 = 8; total 2 = 16; value 7 2 = 7; value 8 2 = -9; value 8 3 = 0
                """);
    }

    private static void scanCounts() {
        boundary("Promise 5", "how many VALUES ARE", "none without OPS, and that is SCANNED too", """
                scan = 0; total 1 = 4; total 2 = 0; total 3 = 0; value 0 0 = -9; start = done; total 8 = 2
                """);
        boundary("Promise 5", "how many VALUES ARE", "none of OPS that neither READ nor SET", "op 7 1; op 11; scan = 0");
        boundary("Promise 5", "how many VALUES ARE", "all 24", READ_ALL + "scan = 24; value 23 1 = 46; value 24 1 = -9");
        boundary("Promise 5", "how many VALUES ARE", "the same again", "op 1 2 0 1; scan = 3; scan = 3; total 3 = 3; value 2 2 = 0");
        boundary("Promise 5", "One that is never IS has neither", """
                op 0 1 5; scan = 1; value 0 0 = -9; value 0 1 = -9; value 1 0 = 1; value 1 1 = 1; value 2 0 = -9
                """);
        boundary("Promise 5", "One that is never IS has neither", "though it was in a row before", """
                op 10 0; op 9 1; op 10 1; op 10 0; scan = 2; clear; op 10 2; scan = 1
                value 0 0 = -9; value 1 1 = -9; value 0 4 = -9; value 2 4 = 0; total 2 = 0; total 3 = 1
                """);
        boundary("Promise 5", "no RUN then", BUSY_RUN + "scan = 2\n" + NO_RUN + "total 1 = 4; value 0 0 = 1; start = done; total 8 = 1");
        boundary("Promise 5", "no RUN then", "of one that is over, too", "op 10 0; scan; start; run 1 = 1; total 8 = 2; scan = 1\n" + NO_RUN);
    }

    private static void scanTimes() {
        boundary("Promise 5", "-1, if it is LIVE ahead of OP 0", """
                op 1 2 0 1; scan = 3; value 0 0 = -1; value 0 1 = 0; value 1 0 = -1; value 1 1 = 0; value 2 0 = 1; value 2 1 = 1
                """);
        boundary("Promise 5", "2 * k, if it is LIVE ahead of OP k", "of one that was LIVE all the way", """
                op 11; op 7 3; op 11; op 7 4; op 10 0; scan = 1; value 0 0 = 2; value 0 1 = 8
                """);
        boundary("Promise 5", "2 * k, if it is LIVE ahead of OP k or k READS it", "where no way leads to", """
                op 11; op 10 0; scan = 1; value 0 0 = 2; value 0 1 = 2
                """);
        boundary("Promise 5", "2 * k + 1, if k SETS it", "and no OP READS it", """
                op 11; op 0 0 5; scan = 1; value 0 0 = 3; value 0 1 = 3
                """);
        boundary("Promise 5", "2 * k + 1, if k SETS it", "behind its last READ", """
                op 10 0; op 0 0 5; scan = 1; value 0 0 = -1; value 0 1 = 3
                """);
        boundary("Promise 5", "2 * k + 1, if k SETS it", "k READS it, too", """
                op 11; op 1 0 0 0; scan = 1; value 0 0 = 2; value 0 1 = 3
                """);
        boundary("Promise 5", "the least and the greatest of these", "at the last of 60 OPS", """
                59 * op 11; op 6 1 0 = 59; scan = 2
                value 0 0 = 118; value 0 1 = 118; value 1 0 = 119; value 1 1 = 119
                """);
        boundary("Promise 5", "the least and the greatest of these", "on around a turn", """
                op 10 0; op 0 0 5; op 6 1 0; op 7 0; scan = 2
                value 0 0 = -1; value 0 1 = 6; value 1 0 = 5; value 1 1 = 5
                """);
        boundary("Promise 5", "the least and the greatest of these", "not LIVE in between", """
                op 0 0 1; op 10 0; op 11; op 0 0 2; op 10 0; scan = 1; value 0 0 = 1; value 0 1 = 8
                """);
    }

    private static void scanOverCalls() {
        boundary("Promise 5", "FIRST not above 2 * k", "FIRST is 2 * k", """
                op 11; op 9 1; op 10 0; scan = 2; value 0 0 = 2; value 0 4 = 1; value 0 2 = -9; value 0 3 = 0
                """);
        boundary("Promise 5", "FIRST not above 2 * k", "FIRST is 2 * k + 1", """
                op 9 0; op 10 0; scan = 1; value 0 0 = 1; value 0 4 = 0; value 0 2 = 0; value 0 3 = -9
                """);
        boundary("Promise 5", "FIRST not above 2 * k", "FIRST is 2 * k - 1", """
                op 0 0 5; op 9 1; op 10 0; scan = 2; value 0 0 = 1; value 0 4 = 1; value 0 2 = -9; value 0 3 = 0
                """);
        boundary("Promise 5", "FIRST not above 2 * k", "FIRST is -1, the CALL is OP 0", """
                op 9 1; op 10 0; scan = 2; value 0 0 = -1; value 0 4 = 1; value 0 2 = -9
                """);
        boundary("Promise 5", "LAST above it", "LAST is 2 * k + 1", """
                op 10 0; op 9 0; scan = 1; value 0 1 = 3; value 0 4 = 1; value 0 2 = -9; value 0 3 = 0
                """);
        boundary("Promise 5", "LAST above it", "LAST is 2 * k + 2", """
                op 9 1; op 10 0; scan = 2; value 0 1 = 2; value 0 4 = 1
                """);
        boundary("Promise 5", "LAST above it", "LAST is 2 * k - 1", """
                op 0 0 5; op 9 1; scan = 2; value 0 1 = 1; value 0 4 = 0; value 0 2 = 0
                """);
        boundary("Promise 5", "LAST above it", "LAST is 2 * k - 2", """
                op 10 0; op 9 1; scan = 2; value 0 1 = 0; value 0 4 = 0; value 0 2 = 0
                """);
        boundary("Promise 5", "of an OP k that is one", "no other kind is", """
                op 0 0 5; op 0 1 1; op 1 1 1 1; op 2 1 1 1; op 3 1 1 1; op 4 1 1 1; op 5 1 1 1; op 6 1 1
                op 8 1 9; op 7 10; op 10 1; op 10 0; op 11; scan = 2; value 0 4 = 0; value 1 4 = 0; total 3 = 2
                """);
        boundary("Promise 5", "of an OP k that is one", "where no way leads to, too", """
                op 0 0 5; op 7 3; op 9 1; op 10 0; scan = 2; value 0 4 = 1; value 0 2 = -9
                """);
        boundary("Promise 5", "of an OP k that is one", "the last of 60", """
                op 10 0; 58 * op 11; op 9 0 = 59; scan = 1; value 0 1 = 119; value 0 4 = 1; value 0 2 = -9
                """);
        boundary("Promise 5", "gets no REGISTER", "though all are free, and it takes none from the others", """
                registers 1; op 0 0 5; op 9 1; op 10 0; op 10 1; scan = 2
                value 0 2 = -9; value 1 4 = 0; value 1 2 = 0; total 3 = 1; total 2 = 1
                """);
    }

    private static void scanOrder() {
        boundary("Promise 5", "The others are gone through by their FIRST times", """
                op 0 5 1; op 0 2 1; op 10 2; op 10 5; scan = 2; value 5 2 = 0; value 2 2 = 1
                """);
        boundary("Promise 5", "The others are gone through by their FIRST times, then by numbers", """
                op 10 9; op 10 3; scan = 2; value 9 0 = -1; value 3 0 = -1; value 3 2 = 0; value 9 2 = 1
                """);
        boundary("Promise 5", "REGISTERS whose holder's LAST is below this FIRST are free", "by one", """
                registers 1; op 0 0 5; op 6 1 0; op 10 1; scan = 2
                value 0 1 = 2; value 1 0 = 3; value 0 2 = 0; value 1 2 = 0; total 2 = 0; total 3 = 2
                """);
        boundary("Promise 5", "REGISTERS whose holder's LAST is below this FIRST are free", "not if they are the same", """
                op 0 0 5; op 7 60; op 1 2 0 1
                registers 2; scan = 3; value 0 1 = 4; value 1 0 = 4; value 0 2 = 0; value 1 2 = 1; value 2 2 = 0
                registers 1; scan = 3; value 0 2 = 0; value 1 2 = -9; value 1 3 = 0; value 2 2 = 0
                """);
        boundary("Promise 5", "the least free one is given", """
                registers 3; op 0 0; op 0 1; op 0 2; op 10 0; op 10 2; op 0 3; op 0 4; op 10 1; op 10 3; op 10 4
                scan = 5; value 0 2 = 0; value 1 2 = 1; value 2 2 = 2; value 3 2 = 0; value 4 2 = 2; total 3 = 5; total 2 = 0
                """);
    }

    private static void scanLosers() {
        boundary("Promise 5", "the holder with the greatest LAST", """
                registers 2; op 0 0; op 0 1; op 0 2; op 10 2; op 10 1; op 10 0; scan = 3
                value 0 2 = -9; value 1 2 = 1; value 2 2 = 0; value 0 3 = 0; total 3 = 2
                """);
        boundary("Promise 5", "of several the one of the greatest REGISTER", """
                op 0 0; op 0 1; op 0 2; op 0 3; op 10 3; op 10 1; op 1 4 0 2
                registers 3; scan = 5; value 0 1 = 12; value 2 1 = 12; value 1 1 = 10
                value 0 2 = 0; value 1 2 = 1; value 2 2 = -9; value 3 2 = 2; value 2 3 = 0; value 4 2 = 0
                """);
        boundary("Promise 5", "if that is above the VALUE's own LAST", "above by one", """
                registers 1; op 0 0; op 7 2; op 0 1; op 10 0; scan = 2; value 0 1 = 6; value 1 1 = 5
                value 0 2 = -9; value 1 2 = 0; value 0 3 = 0; value 1 3 = -9
                """);
        boundary("Promise 5", "else this one gets none", "the same LAST", """
                registers 1; op 0 0; op 0 1; op 1 2 0 1; scan = 3; value 0 1 = 4; value 1 1 = 4
                value 0 2 = 0; value 1 2 = -9; value 1 3 = 0; value 2 2 = 0
                """);
        boundary("Promise 5", "else this one gets none", "a LAST below its own by one", """
                registers 1; op 10 0; op 0 1; op 0 0; op 10 1; scan = 2; value 0 1 = 5; value 1 1 = 6
                value 0 2 = 0; value 1 2 = -9; value 1 3 = 0
                """);
        boundary("Promise 5", "for good: it has none from the beginning", """
                registers 1; op 0 0 5; op 0 1 6; op 10 1; op 10 0; op 10 0; scan = 2
                value 0 2 = -9; value 0 3 = 0; value 1 2 = 0; start; run 1 = 1; register 0 = 0; slot 0 = 5
                run 1 = 1; register 0 = 6; slot 0 = 5; run 1 = 1; now 0 = 5
                """);
        boundary("Promise 5", "for good: it has none from the beginning", "a REGISTER that is free later does not come back to it", """
                registers 2; op 0 0; op 0 1; op 0 2; op 10 2; op 10 1; op 0 3; op 10 3; op 10 0; scan = 4
                value 0 2 = -9; value 2 2 = 0; value 1 2 = 1; value 3 2 = 0; value 0 3 = 0
                """);
        boundary("Promise 5", "it loses its REGISTER", "and the one that gets it may lose it again", """
                registers 1; op 0 0; op 0 1; op 0 2; op 10 2; op 10 1; op 10 0; scan = 3
                value 0 2 = -9; value 1 2 = -9; value 2 2 = 0; value 0 3 = 0; value 1 3 = 1; total 3 = 1; total 2 = 2
                """);
    }

    private static void scanSlots() {
        boundary("Promise 5", "Then those without a REGISTER that ARE", "the others get no SLOT", """
                registers 1; op 0 0; op 10 0; op 0 1; op 9 2; op 10 1; scan = 3
                value 0 3 = -9; value 1 3 = 0; value 2 3 = -9; value 3 3 = -9; total 2 = 1
                """);
        boundary("Promise 5", "likewise by FIRST times", "op 0 5; op 0 2; op 9 7; op 10 2; op 10 5; scan = 3; value 5 3 = 0; value 2 3 = 1");
        boundary("Promise 5", "likewise by FIRST times and numbers", "op 9 7; op 10 9; op 10 3; scan = 3; value 3 3 = 0; value 9 3 = 1");
        boundary("Promise 5", "likewise by FIRST times", "one OVER a CALL and one that lost its REGISTER", """
                registers 1; op 0 3; op 0 1; op 0 2; op 10 2; op 10 3; op 9 4; op 10 1; scan = 4
                value 3 2 = -9; value 2 2 = 0; value 1 4 = 1; value 3 3 = 0; value 1 3 = 1
                """);
        boundary("Promise 5", "whose latest holder's LAST is below this FIRST", "by one", """
                op 0 0; op 9 5; op 6 1 0; op 9 6; op 10 1; scan = 4; value 0 1 = 4; value 1 0 = 5; value 0 3 = 0; value 1 3 = 0; total 2 = 1
                """);
        boundary("Promise 5", "whose latest holder's LAST is below this FIRST", "not if they are the same", """
                op 0 0; op 9 5; op 7 60; op 1 2 0 1; op 9 6; op 10 1; scan = 5
                value 0 1 = 6; value 1 0 = 6; value 0 3 = 0; value 1 3 = 1; total 2 = 2
                """);
        boundary("Promise 5", "latest holder", "one before it that is gone does not count", """
                op 0 0; op 9 9; op 6 1 0; op 9 9; op 0 2; op 9 9; op 10 1; op 10 2; scan = 4
                value 0 3 = 0; value 9 3 = 1; value 1 3 = 0; value 2 3 = 2; total 2 = 3
                """);
        boundary("Promise 5", "the least one that is new, or whose latest holder's LAST is below this FIRST", "the least of two", """
                op 0 0; op 0 1; op 9 9; op 10 0; op 10 1; op 0 2; op 0 3; op 9 8; op 10 2; op 10 3; scan = 6
                value 0 3 = 0; value 1 3 = 1; value 2 3 = 0; value 3 3 = 1; total 2 = 2
                """);
        boundary("Promise 5", "get SLOTS", "all 24", "op 9 0;" + READ_ALL + """
                op 9 0; scan = 24; total 3 = 0; total 2 = 24; value 0 3 = 23; value 1 3 = 0; value 23 3 = 22
                """);
    }

    private static void living() {
        boundary("Promise 6", "k 0 .. as many as there are: there none is", """
                op 10 0; op 10 0; live 0 0 = true; live 1 0 = true; live 2 0 = false
                new; live 0 0 = false
                """);
        boundary("Promise 6", "k 0 .. as many as there are: there none is", "of 60 too", """
                59 * op 11; op 10 0; live 58 0 = false; live 59 0 = true; live 60 0 = false
                """);
        boundary("Promise 6", "False if there is none such", "k", READ_ALL + """
                live 0 0 = true; live -1 0 = false; live -1 23 = false; live MIN 0 = false
                live 24 23 = false; live 25 23 = false; live 60 0 = false; live 61 0 = false; live MAX 0 = false
                """);
        boundary("Promise 6", "False if there is none such", "VALUE", READ_ALL + """
                live 0 23 = true; live 0 -1 = false; live 0 24 = false; live 0 31 = false; live 0 32 = false; live 0 55 = false
                live 0 -32 = false; live 0 -9 = false; live 0 64 = false; live 0 MIN = false; live 0 MAX = false
                """);
        boundary("Promise 6", "False if there is none such", "OPS that are gone", "op 10 0; live 0 0 = true; clear; live 0 0 = false");
        boundary("Promise 6", "Whether a VALUE is LIVE ahead of OP k", "without a scan(), of the OPS that there are now", """
                op 7 1; live 0 0 = false; op 10 0; live 0 0 = true; live 1 0 = true; total 1 = 0
                """);
        boundary("Promise 6", "Whether a VALUE is LIVE", "asking changes nothing", BUSY_RUN + "live 0 0; live 5 0; live 99 99\n" + BUSY_RUN_GOES_ON);
    }

    private static void livingWays() {
        boundary("Promise 6", "by both ends of an 8", """
                op 8 0 3; op 10 1; op 11; op 10 2; live 0 0 = true; live 0 1 = true; live 0 2 = true
                live 1 0 = false; live 1 2 = false; live 3 1 = false
                """);
        boundary("Promise 6", "by both ends of an 8", "set on one of them alone", """
                op 8 0 2; op 0 1 5; op 10 1; live 0 1 = true; live 1 1 = false; live 2 1 = true
                """);
        boundary("Promise 6", "7: on at OP t", "and not at the next one", "op 7 2; op 10 0; op 11; live 0 0 = false; live 1 0 = true");
        boundary("Promise 6", "no OP ahead of that on the way SETS it", "the one that READS it may", """
                op 1 0 0 1; op 6 2 2; live 0 0 = true; live 0 1 = true; live 1 0 = false; live 0 2 = true; live 1 2 = true
                new; op 5 0 1 0; live 0 0 = true; live 0 1 = true
                """);
        boundary("Promise 6", "no OP ahead of that on the way SETS it", "each kind that SETS", """
                op 0 0 1; op 10 0; live 0 0 = false; live 1 0 = true
                new; op 1 0 1 1; op 10 0; live 0 0 = false
                new; op 2 0 1 1; op 10 0; live 0 0 = false
                new; op 3 0 1 1; op 10 0; live 0 0 = false
                new; op 4 0 1 1; op 10 0; live 0 0 = false
                new; op 5 0 1 1; op 10 0; live 0 0 = false
                new; op 6 0 1; op 10 0; live 0 0 = false
                new; op 9 0; op 10 0; live 0 0 = false
                """);
        boundary("Promise 6", "to an OP that READS it", "each kind that READS, and no other", """
                op 1 0 1 2; live 0 1 = true; live 0 2 = true; live 0 0 = false
                new; op 2 0 1 2; live 0 1 = true; live 0 2 = true; live 0 0 = false
                new; op 3 0 1 2; live 0 1 = true; live 0 2 = true; live 0 0 = false
                new; op 4 0 1 2; live 0 1 = true; live 0 2 = true; live 0 0 = false
                new; op 5 0 1 2; live 0 1 = true; live 0 2 = true; live 0 0 = false
                new; op 6 0 1 2; live 0 1 = true; live 0 2 = false; live 0 0 = false
                new; op 8 1 2; live 0 1 = true; live 0 2 = false
                new; op 10 1 2; live 0 1 = true; live 0 2 = false
                new; op 0 0 1 2; op 7 0 1 2; op 9 0 1 2; op 11 0 1 2
                live 0 0 = false; live 0 1 = false; live 0 2 = false; live 1 0 = false; live 2 1 = false; live 3 0 = false
                """);
        boundary("Promise 6", "11: the end", "op 0 1 5; op 11; op 10 0; live 0 0 = false; live 1 0 = false; live 2 0 = true");
        boundary("Promise 6", "A row ends behind its last OP, and at an OP t that there is not, too", """
                op 10 0; op 7 3; op 7 60; live 1 0 = false; live 2 0 = false; op 10 1; live 1 1 = true; live 2 1 = false; live 2 0 = false
                """);
        boundary("Promise 6", "a way from k on", "around a turn", """
                op 7 2; op 10 0; op 7 1; live 0 0 = true; live 2 0 = true
                new; op 7 0; op 10 0; live 0 0 = false
                new; op 10 1; op 0 1 5; op 0 0 1; op 8 0 0; live 1 1 = false; live 2 1 = true; live 3 1 = true; live 2 0 = false
                """);
        StringBuilder uphill = new StringBuilder("op 10 7;");
        for (int k = 1; k < 60; k++) {
            uphill.append("op 7 ").append(k - 1).append(" = ").append(k).append(";");
        }
        boundary("Promise 6", "a way from k on", "over as many OPS as there may be", uphill + "live 59 7 = true; live 1 7 = true");
    }

    private static void values() {
        boundary("Promise 7", "-9 if nothing was SCANNED", "op 10 0\n" + NOTHING_SCANNED + "scan; value 0 0 = -1; op 11\n" + NOTHING_SCANNED);
        boundary("Promise 7", "as it was SCANNED", """
                op 10 0; scan; registers 1; live 0 0; value 0 0 = -1; start; run 1; value 0 1 = 0; value 0 2 = 0
                """);
        boundary("Promise 7", "there is no such VALUE", READ_ALL + """
                scan = 24; value 0 0 = -1; value 23 0 = -1
                value -1 0 = -9; value -1 1 = -9; value -1 2 = -9; value -1 3 = -9; value -1 4 = -9
                value 24 0 = -9; value 24 1 = -9; value 24 2 = -9; value 24 3 = -9; value 24 4 = -9
                value MIN 0 = -9; value MAX 0 = -9; value MIN 4 = -9; value MAX 4 = -9
                """);
        boundary("Promise 7", "it never IS", """
                op 10 0; scan = 1; value 1 0 = -9; value 1 1 = -9; value 1 2 = -9; value 1 3 = -9; value 1 4 = -9; value 23 0 = -9
                """);
        boundary("Promise 7", "for another what", """
                op 10 0; scan; value 0 -1 = -9; value 0 5 = -9; value 0 6 = -9; value 0 MIN = -9; value 0 MAX = -9
                """);
        boundary("Promise 7", "of 2, 3: if it has none", """
                op 0 0; op 9 1; op 10 0; op 10 1; scan = 2
                value 0 2 = -9; value 0 3 = 0; value 1 2 = 0; value 1 3 = -9
                """);
        boundary("Promise 7", "its FIRST time", "-1 is one", "op 10 0; scan; value 0 0 = -1; value 0 1 = 0");
        boundary("Promise 7", "4: 1 if it IS OVER a CALL, else 0", """
                op 0 0; op 9 1; op 10 0; op 10 1; scan = 2; value 0 4 = 1; value 1 4 = 0
                """);
    }

    private static void starting() {
        boundary("Promise 8", "IllegalStateException: nothing was SCANNED", """
                start = IllegalStateException; op 10 0; start = IllegalStateException; total 8 = 0
                scan; start = done; op 10 0; start = IllegalStateException; scan; start = done; clear; start = IllegalStateException
                """);
        boundary("Promise 8", "A RUN begins", "as often as it is asked for", BUSY_RUN + """
                start = done; total 4 = 0; total 5 = 0; total 6 = 0; total 7 = 0; total 8 = 1
                output 0 = NoSuchElementException; register 0 = 0; register 3 = 0; slot 0 = 0
                """ + "run 6 = 6;" + BUSY_RUN_GOES_ON);
        boundary("Promise 8", "A RUN begins", "behind one that is over", """
                op 10 0; op 0 0 5; scan; start; run 5 = 2; total 8 = 2; start = done; total 8 = 1; run 1 = 1; output 0 = 0; total 7 = 1
                new; op 7 0; scan; start; 6 * run 500 = 500; total 8 = 3; start = done; total 8 = 1; total 4 = 0; run 500 = 500
                """);
        boundary("Promise 8", "(all 0 at first)", """
                registers 8; op 10 0; op 0 1 6; op 9 2; op 10 2; op 10 1; scan; start
                register 0 = 0; register 7 = 0; slot 0 = 0; run 5 = 5; register 7 = 7777777; slot 0 = 6
                start; register 0 = 0; register 7 = 0; slot 0 = 0
                """);
        boundary("Promise 8", "The VALUES that are LIVE ahead of OP 0 are 0 there", """
                op 10 0; op 0 0 5; op 9 1; op 10 0; op 10 2; op 0 2 7; op 10 2; scan; start
                now 0 = 0; now 2 = 0; run 500 = 7; output 0 = 0; output 2 = 0; output 3 = 7
                start; now 0 = 0; now 2 = 0; run 500 = 7; output 0 = 0; output 2 = 0
                """);
        boundary("Promise 8", "It is over as soon as the OP that comes next is an 11 (which is no STEP), or there is none", "at once", """
                op 11; scan; start = done; total 8 = 2; total 4 = 0; total 5 = 0; run 1 = IllegalStateException
                new; scan; start = done; total 8 = 2; total 4 = 0; total 5 = 0; run 1 = IllegalStateException
                """);
    }

    private static void runArguments() {
        boundary("Promise 9", "At most n (1 .. 500) STEPS", """
                op 7 0; scan; start; run 1 = 1; total 4 = 1; run 500 = 500; total 4 = 501; run 499 = 499; run 2 = 2; total 4 = 1002
                """);
        boundary("Promise 9", "IllegalArgumentException: another n", """
                op 7 0; scan; start
                run 0 = IllegalArgumentException; run -1 = IllegalArgumentException; run MIN = IllegalArgumentException
                run 501 = IllegalArgumentException; run 1000 = IllegalArgumentException; run MAX = IllegalArgumentException
                total 4 = 0; total 8 = 1
                """);
        boundary("Promise 9", "IllegalArgumentException: another n", "changing nothing",
                BUSY_RUN + "run 0 = IllegalArgumentException; run 501 = IllegalArgumentException\n" + BUSY_RUN_GOES_ON);
        boundary("Promise 9", "IllegalStateException (asked behind that): no RUN, or it is over", "no RUN", """
                run 1 = IllegalStateException; run 500 = IllegalStateException
                run 0 = IllegalArgumentException; run 501 = IllegalArgumentException
                op 7 0; scan; run 1 = IllegalStateException; run 0 = IllegalArgumentException
                start; run 1 = 1; scan; run 1 = IllegalStateException
                start; run 1 = 1; op 11; run 1 = IllegalStateException; run 501 = IllegalArgumentException
                scan; start; clear; run 1 = IllegalStateException
                """);
        boundary("Promise 9", "IllegalStateException (asked behind that): no RUN, or it is over", "it is over", """
                op 10 0; scan; start; run 1 = 1; run 1 = IllegalStateException; run 500 = IllegalStateException
                run 0 = IllegalArgumentException; run 501 = IllegalArgumentException; total 4 = 1; total 7 = 1; total 8 = 2
                """);
        boundary("Promise 9", "how many were done", "fewer than n where it is over", """
                op 10 0; op 10 0; op 10 0; scan; start; run 500 = 3
                start; run 3 = 3; total 8 = 2
                start; run 2 = 2; total 8 = 1; run 2 = 1; total 8 = 2
                """);
    }

    private static void runEnds() {
        boundary("Promise 9", "the OP that comes next is an 11 (which is no STEP)", """
                op 10 0; op 11; op 10 0; scan; start; run 2 = 1; total 4 = 1; total 5 = 1; total 7 = 1; total 8 = 2
                """);
        boundary("Promise 9", "or there is none", "behind the last OP", "op 10 0; scan; start; run 2 = 1; total 5 = 1; total 8 = 2");
        boundary("Promise 9", "or there is none", "behind the last of 60", """
                60 * op 10 0; scan; start; run 59 = 59; total 8 = 1; run 2 = 1; total 5 = 60; total 8 = 2; total 7 = 60
                """);
        boundary("Promise 9", "or there is none", "at an OP t that there is not", """
                op 7 60; scan; start; run 2 = 1; total 5 = 60; total 8 = 2
                new; op 7 1; scan; start; run 2 = 1; total 5 = 1; total 8 = 2
                new; op 8 0 7; op 10 0; scan; start; run 2 = 1; total 5 = 7; total 8 = 2; total 7 = 0
                """);
        boundary("Promise 9", "else behind 3000 STEPS", """
                op 7 0; scan; start; 5 * run 500 = 500; run 499 = 499; total 4 = 2999; total 8 = 1
                run 1 = 1; total 4 = 3000; total 8 = 3; run 1 = IllegalStateException; run 501 = IllegalArgumentException
                total 4 = 3000; total 5 = 0
                """);
        boundary("Promise 9", "else behind 3000 STEPS", "fewer than n are done then", """
                op 7 0; scan; start; run 1 = 1; 5 * run 500 = 500; run 500 = 499; total 4 = 3000; total 8 = 3
                """);
        String over = "It is over as soon as the OP that comes next is an 11 (which is no STEP), or there is none; else behind 3000 STEPS";
        boundary("Promise 9", over, "there is none behind the 3000th STEP", """
                op 0 0 750; op 0 1 1; op 2 0 0 1; op 8 0 6; op 6 2 0; op 7 2; scan; start
                5 * run 500 = 500; run 499 = 499; total 8 = 1; run 500 = 1; total 4 = 3000; total 5 = 6; total 8 = 2
                """);
        boundary("Promise 9", over, "an 11 is behind the 3000th STEP", """
                op 0 0 750; op 0 1 1; op 2 0 0 1; op 8 0 6; op 6 2 0; op 7 2; op 11; scan; start
                6 * run 500 = 500; total 4 = 3000; total 5 = 6; total 8 = 2; run 1 = IllegalStateException
                """);
        boundary("Promise 9", "else behind 3000 STEPS", "one STEP short of the end", """
                op 7 1; op 0 0 750; op 0 1 1; op 2 0 0 1; op 8 0 7; op 6 2 0; op 7 3; scan; start
                6 * run 500 = 500; total 4 = 3000; total 5 = 4; total 8 = 3
                """);
        boundary("Promise 9", "else behind 3000 STEPS", "a turn without an end", """
                op 0 1 1; op 2 0 0 1; op 8 0 5; op 6 2 0; op 7 1; scan; start
                6 * run 500 = 500; total 8 = 3; total 5 = 4; now 0 = -750; now 1 = 1
                """);
    }

    private static void runReckons() {
        boundary("Promise 9", "x + y, x - y, x * y (as ints, which wrap)", "x + y", """
                op 0 0 MAX; op 0 1 1; op 0 2 MIN; op 1 3 0 1; op 10 3; op 1 3 2 2; op 10 3; op 1 3 2 0; op 10 3
                scan; start; run 500; output 0 = MIN; output 1 = 0; output 2 = -1
                """);
        boundary("Promise 9", "x + y, x - y, x * y (as ints, which wrap)", "x - y", """
                op 0 0 MIN; op 0 1 1; op 0 2 0; op 2 3 0 1; op 10 3; op 2 3 2 0; op 10 3; op 2 3 1 2; op 10 3; op 2 3 2 1; op 10 3
                scan; start; run 500; output 0 = MAX; output 1 = MIN; output 2 = 1; output 3 = -1
                """);
        boundary("Promise 9", "x + y, x - y, x * y (as ints, which wrap)", "x * y", """
                op 0 0 MAX; op 0 1 2; op 0 2 MIN; op 0 3 -1; op 0 4 65536
                op 3 5 0 1; op 10 5; op 3 5 2 3; op 10 5; op 3 5 4 4; op 10 5; op 3 5 0 0; op 10 5
                scan; start; run 500; output 0 = -2; output 1 = MIN; output 2 = 0; output 3 = 1
                """);
        boundary("Promise 9", "1 if x is less than y else 0", """
                op 0 0 MIN; op 0 1 MAX; op 0 2 1; op 0 3 2
                op 4 5 2 2; op 10 5; op 4 5 2 3; op 10 5; op 4 5 3 2; op 10 5; op 4 5 0 1; op 10 5; op 4 5 1 0; op 10 5; op 4 5 0 2; op 10 5
                scan; start; run 500; output 0 = 0; output 1 = 1; output 2 = 0; output 3 = 1; output 4 = 0; output 5 = 1
                """);
        boundary("Promise 9", "the greater one", """
                op 0 0 MIN; op 0 1 MAX; op 0 2 -1; op 0 3 -2
                op 5 5 0 1; op 10 5; op 5 5 1 0; op 10 5; op 5 5 2 3; op 10 5; op 5 5 3 2; op 10 5; op 5 5 2 2; op 10 5; op 5 5 0 2; op 10 5
                scan; start; run 500; output 0 = MAX; output 1 = MAX; output 2 = -1; output 3 = -1; output 4 = -1; output 5 = -1
                """);
        boundary("Promise 9", "0 SETS v to a number", "the least and the greatest", """
                op 0 0 MIN; op 10 0; op 0 0 MAX; op 10 0; op 0 0 -1; op 10 0; op 0 0 61; op 10 0
                scan; start; run 500 = 8; output 0 = MIN; output 1 = MAX; output 2 = -1; output 3 = 61
                """);
        boundary("Promise 9", "1 .. 5 SET v", "v is x or y itself, too", """
                op 0 0 5; op 1 0 0 0; op 10 0; op 0 1 3; op 2 1 0 1; op 10 1; op 6 1 1; op 10 1; op 4 0 1 0; op 10 0
                scan; start; run 500; output 0 = 10; output 1 = 7; output 2 = 7; output 3 = 1
                """);
    }

    private static void runWays() {
        boundary("Promise 9", "8: if x is 0 on at OP t", """
                op 8 0 2; op 10 0; op 0 1 5; op 10 1; scan; start; run 1 = 1; total 5 = 2; run 9 = 2; output 0 = 5
                """);
        boundary("Promise 9", "8: if x is 0 on at OP t, else at the next one", """
                op 0 0 1; op 8 0 60; op 0 0 -1; op 8 0 60; op 0 0 MIN; op 8 0 60; op 0 0 MAX; op 8 0 60; op 0 0 0; op 8 0 60; op 10 0
                scan; start; run 8 = 8; total 5 = 8; run 500 = 2; total 5 = 60; total 7 = 0
                """);
        boundary("Promise 9", "8: if x is 0 on at OP t, else at the next one", "there is none", """
                op 0 0 1; op 8 0 0; scan; start; run 500 = 2; total 5 = 2; total 8 = 2
                """);
        boundary("Promise 9", "7: on at OP t", "itself, one ahead, one behind, 0", """
                op 7 0; scan; start; run 3 = 3; total 5 = 0; total 4 = 3
                new; op 7 3; op 11; op 7 0; op 7 2; scan; start; run 1; total 5 = 3; run 1; total 5 = 2; run 1; total 5 = 0
                """);
        boundary("Promise 9", "how many CALLS there were in this RUN, this one too", """
                op 9 0; op 10 0; op 7 0; scan; start; run 5 = 5; output 0 = 1; output 1 = 2; total 6 = 2
                start; total 6 = 0; run 2 = 2; output 0 = 1; total 6 = 1
                """);
        boundary("Promise 9", "all REGISTERS become 7777777 ahead of that", """
                registers 8; op 0 0 5; op 0 1 6; op 10 0; op 0 2 8; op 10 2; op 10 1; op 9 3; op 10 3; scan = 4; start; run 6 = 6
                register 0 = 8; register 1 = 6; register 7 = 0
                run 1 = 1; register 0 = 1; register 1 = 7777777; register 2 = 7777777; register 6 = 7777777; register 7 = 7777777; now 3 = 1
                """);
        boundary("Promise 9", "all REGISTERS become 7777777 ahead of that", "no SLOT does", """
                op 0 0 5; op 10 1; op 9 1; op 10 0; scan = 2; value 1 3 = 0; value 0 3 = 1; start; run 3 = 3
                slot 0 = 1; slot 1 = 5; register 0 = 7777777; register 3 = 7777777; run 1 = 1; output 1 = 5
                """);
        boundary("Promise 9", "what an OP READS is read from the PLACES, what it SETS goes to its VALUE's", """
                registers 1; op 0 0 5; op 0 1 6; op 10 1; op 1 2 0 0; op 10 2; scan = 3; value 0 3 = 0; value 2 2 = 0; start
                run 1; slot 0 = 5; register 0 = 0; run 1; register 0 = 6; run 2; register 0 = 10; slot 0 = 5; run 1; output 1 = 10
                """);
        boundary("Promise 9", "what it SETS goes to its VALUE's", "of one that no OP READS, too", """
                registers 1; op 0 0 5; op 0 1 6; op 10 0; scan = 2; value 0 3 = 0; value 1 2 = 0; start; run 3 = 3; register 0 = 6; output 0 = 5
                """);
    }

    private static void nows() {
        boundary("Promise 10", "NoSuchElementException: no RUN", """
                now 0 = NoSuchElementException; op 10 0; now 0 = NoSuchElementException; scan; now 0 = NoSuchElementException
                start; now 0 = 0; scan; now 0 = NoSuchElementException; start; now 0 = 0; op 11; now 0 = NoSuchElementException
                scan; start; now 0 = 0; clear; now 0 = NoSuchElementException
                """);
        boundary("Promise 10", "or it is not LIVE ahead of the OP that comes next", """
                op 0 0 5; op 0 1 6; op 10 0; op 10 1; scan; start
                now 0 = NoSuchElementException; now 1 = NoSuchElementException; run 1; now 0 = 5; now 1 = NoSuchElementException
                run 1; now 0 = 5; now 1 = 6; run 1; now 0 = NoSuchElementException; now 1 = 6; run 1; now 1 = NoSuchElementException
                """);
        boundary("Promise 10", "or it is not LIVE ahead of the OP that comes next", "an 11, or none", """
                op 0 0 5; op 10 0; op 11; op 10 0; scan; start; run 9 = 2; total 5 = 2; now 0 = NoSuchElementException
                new; op 10 0; op 7 60; scan; start; run 9 = 2; total 5 = 60; now 0 = NoSuchElementException
                new; op 10 0; scan; start; run 9 = 1; now 0 = NoSuchElementException
                new; scan; start; now 0 = NoSuchElementException
                """);
        boundary("Promise 10", "(or there is none such)", READ_ALL + """
                scan; start; now 0 = 0; now 23 = 0; now -1 = NoSuchElementException; now 24 = NoSuchElementException
                now 32 = NoSuchElementException; now 55 = NoSuchElementException; now -32 = NoSuchElementException
                now MIN = NoSuchElementException; now MAX = NoSuchElementException
                """);
        boundary("Promise 10", "by its PLACE", "a REGISTER or a SLOT", """
                registers 1; op 0 0 5; op 0 1 6; op 10 1; op 10 0; scan; start; run 2; value 0 3 = 0; value 1 2 = 0; now 0 = 5; now 1 = 6
                """);
        boundary("Promise 10", "What a VALUE is in the RUN", "in one that is over by its STEPS, too", """
                op 1 0 0 1; op 0 1 1; op 7 0; scan; start; 6 * run 500 = 500; total 8 = 3; now 0 = 999; now 1 = 1
                """);
    }

    private static void registersOfTheRun() {
        boundary("Promise 11", "NONE is none such: NoSuchElementException", BUSY_RUN + "register NONE = NoSuchElementException; register 0 = 2");
        boundary("Promise 11", "REGISTER i of the RUN", "too small, too large", """
                op 10 0; scan; start; register 0 = 0; register 3 = 0; register 4 = NoSuchElementException; register 7 = NoSuchElementException
                register -2 = NoSuchElementException; register MIN = NoSuchElementException; register MAX = NoSuchElementException
                registers 1; scan; start; register 0 = 0; register 1 = NoSuchElementException
                registers 8; scan; start; register 7 = 0; register 8 = NoSuchElementException; register 23 = NoSuchElementException
                """);
        boundary("Promise 11", "likewise without a RUN", """
                register 0 = NoSuchElementException; op 10 0; scan; register 0 = NoSuchElementException; start; register 0 = 0
                scan; register 0 = NoSuchElementException; start; op 11; register 0 = NoSuchElementException
                scan; start; clear; register 0 = NoSuchElementException
                """);
        boundary("Promise 11", "REGISTER i of the RUN", "one that is over, too", """
                op 0 0 5; op 10 0; scan; start; run 9; total 8 = 2; register 0 = 5; register 1 = 0; register 4 = NoSuchElementException
                """);
    }

    private static void slotsOfTheRun() {
        boundary("Promise 12", "NoSuchElementException likewise", "NONE is none such", BUSY_RUN + "slot NONE = NoSuchElementException; slot 0 = 5");
        boundary("Promise 12", "NoSuchElementException likewise", "too small, too large", BUSY_RUN + """
                slot 1 = NoSuchElementException; slot 23 = NoSuchElementException; slot 24 = NoSuchElementException
                slot -2 = NoSuchElementException; slot MIN = NoSuchElementException; slot MAX = NoSuchElementException
                """);
        boundary("Promise 12", "NoSuchElementException likewise", "no SLOT was given", """
                op 10 0; scan; start; total 2 = 0; slot 0 = NoSuchElementException
                """);
        boundary("Promise 12", "SLOT i of the RUN", "the last of 24", "op 9 0;" + READ_ALL + """
                op 0 23 77; op 9 0; op 10 23; scan = 24; total 2 = 24; start; slot 23 = 0; run 500
                slot 23 = 2; slot 22 = 77; slot 0 = 0; slot 24 = NoSuchElementException
                """);
        boundary("Promise 12", "NoSuchElementException likewise", "without a RUN", """
                slot 0 = NoSuchElementException; op 9 1; op 10 0; scan; total 2 = 1; slot 0 = NoSuchElementException; start; slot 0 = 0
                scan; slot 0 = NoSuchElementException; start; op 11; slot 0 = NoSuchElementException
                scan; start; clear; slot 0 = NoSuchElementException
                """);
        boundary("Promise 12", "SLOT i of the RUN", "one that is over, too", """
                op 0 0 5; op 9 1; op 10 0; scan; start; run 9; total 8 = 2; slot 0 = 5; slot 1 = NoSuchElementException
                """);
    }

    private static void outputs() {
        boundary("Promise 13", "The k-th number that was put out in the RUN", """
                op 0 0 7; op 10 0; op 0 0 8; op 10 0; scan; start; output 0 = NoSuchElementException
                run 2; output 0 = 7; output 1 = NoSuchElementException; run 2; output 0 = 7; output 1 = 8; total 8 = 2
                """);
        boundary("Promise 13", "there is none such", "too small, too large", """
                op 10 0; op 10 0; scan; start; run 9 = 2; output 1 = 0; output 2 = NoSuchElementException; output -1 = NoSuchElementException
                output NONE = NoSuchElementException; output MIN = NoSuchElementException; output MAX = NoSuchElementException
                """);
        boundary("Promise 13", "300 are kept", "the 300th", COUNT_UP + """
                2 * run 500 = 500; run 196 = 196; total 7 = 299; output 298 = 298; output 299 = NoSuchElementException
                run 1 = 1; total 7 = 300; output 299 = 299; output 300 = NoSuchElementException
                """);
        boundary("Promise 13", "300 are kept", "none behind them", COUNT_UP + """
                2 * run 500 = 500; run 200 = 200; total 7 = 300; run 1 = 1; total 7 = 301; output 299 = 299; output 300 = NoSuchElementException
                output 0 = 0; 3 * run 500 = 500; run 299 = 299; total 4 = 3000; total 7 = 750
                output 0 = 0; output 299 = 299; output 300 = NoSuchElementException; output 749 = NoSuchElementException
                """);
        boundary("Promise 13", "300 are kept", "as many again in the next RUN", COUNT_UP + """
                6 * run 500 = 500; output 299 = 299; start; output 0 = NoSuchElementException; output 299 = NoSuchElementException
                run 5 = 5; output 1 = 1; output 2 = NoSuchElementException; 3 * run 500 = 500; output 299 = 299; output 300 = NoSuchElementException
                """);
        boundary("Promise 13", "there is none such", "without a RUN", """
                output 0 = NoSuchElementException; op 10 0; scan; output 0 = NoSuchElementException; start; run 1; output 0 = 0
                scan; output 0 = NoSuchElementException; start; run 1; op 11; output 0 = NoSuchElementException
                scan; start; run 1; output 0 = 0; clear; output 0 = NoSuchElementException
                """);
    }

    private static void totals() {
        boundary("Promise 14", "NONE for another what", """
                total -1 = NONE; total 9 = NONE; total 10 = NONE; total MIN = NONE; total MAX = NONE
                """ + BUSY_RUN + "total -1 = NONE; total 9 = NONE; total MIN = NONE; total MAX = NONE\n" + BUSY_RUN_GOES_ON);
        boundary("Promise 14", "0: OPS", """
                total 0 = 0; op 11; total 0 = 1; op 12; total 0 = 1; 59 * op 11; total 0 = 60; op 11; total 0 = 60; clear; total 0 = 0
                """);
        boundary("Promise 14", "1 to 3: 0 if nothing was SCANNED", """
                total 1 = 0; total 2 = 0; total 3 = 0; op 9 1; op 10 0; op 10 0; op 10 1; total 1 = 0; total 2 = 0; total 3 = 0
                scan; total 1 = 4; total 2 = 1; total 3 = 1; op 11; total 1 = 0; total 2 = 0; total 3 = 0
                scan; total 2 = 1; total 3 = 1; clear; total 1 = 0; total 2 = 0; total 3 = 0
                """);
        boundary("Promise 14", "1: REGISTERS of the latest scan()", "not of the one to come", """
                registers 2; total 1 = 0; scan; total 1 = 2; registers 3; total 1 = 2; start; total 1 = 2; scan; total 1 = 3
                """);
        boundary("Promise 14", "2: SLOTS of it", "none, and not those of the one before", """
                op 9 1; op 10 0; scan; total 2 = 1; clear; op 10 0; scan; total 2 = 0; total 3 = 1
                """);
        boundary("Promise 14", "3: VALUES with REGISTERS", "more than there are REGISTERS", """
                registers 1; op 0 0; op 10 0; op 0 1; op 10 1; op 0 2; op 10 2; scan = 3; total 3 = 3; total 1 = 1
                """);
        boundary("Promise 14", "3: VALUES with REGISTERS", "none", "op 9 1; op 10 1; op 9 1; scan = 1; total 3 = 0; total 2 = 1");
        boundary("Promise 14", "4 to 7: 0 without a RUN", """
                total 4 = 0; total 5 = 0; total 6 = 0; total 7 = 0
                """ + BUSY_RUN + "scan; total 4 = 0; total 5 = 0; total 6 = 0; total 7 = 0\n"
                + "start; run 6; op 11; total 4 = 0; total 5 = 0; total 6 = 0; total 7 = 0\n"
                + "scan; start; run 6; clear; total 4 = 0; total 5 = 0; total 6 = 0; total 7 = 0");
        boundary("Promise 14", "5: the OP that comes next", "behind the last, and one that there is not", """
                op 10 0; op 10 0; scan; start; total 5 = 0; run 1; total 5 = 1; run 1; total 5 = 2; total 8 = 2
                new; op 7 60; scan; start; run 1; total 5 = 60; total 8 = 2
                """);
        boundary("Promise 14", "7: numbers put out", "beyond those that are kept", COUNT_UP + "6 * run 500; total 7 = 750");
        boundary("Promise 14", "8: 0 no RUN, 1 under way, 2 at its end, 3 over by its STEPS", """
                total 8 = 0; op 10 0; op 11; total 8 = 0; scan; total 8 = 0; start; total 8 = 1; run 1; total 8 = 2; scan; total 8 = 0
                new; op 7 0; scan; start; 5 * run 500; run 499; total 8 = 1; run 1; total 8 = 3; op 11; total 8 = 0
                """);
    }

    public static void main(String[] args) {
        newObject();
        opNumbersAndKinds();
        opValues();
        opTargets();
        opOthersCountForNothing();
        opAndTheRun();
        clearing();
        registerNumbers();
        scanCounts();
        scanTimes();
        scanOverCalls();
        scanOrder();
        scanLosers();
        scanSlots();
        living();
        livingWays();
        values();
        starting();
        runArguments();
        runEnds();
        runReckons();
        runWays();
        nows();
        registersOfTheRun();
        slotsOfTheRun();
        outputs();
        totals();
        System.out.println(failed == 0 ? "all " + tests + " boundaries hold" : failed + " of " + tests + " boundaries do not hold");
        if (failed != 0) {
            System.exit(1);
        }
    }
}
