import java.util.Arrays;
import java.util.List;

/**
 * An object of LockLoom that is asked about one sentence of the document: every call goes with the
 * answer that is due, and is told if it gives another one.
 */
final class Loom {
    static final int NONE = -1;
    static final int LOWEST = Integer.MIN_VALUE;
    static final int HIGHEST = Integer.MAX_VALUE;

    static final int GOES_ON = 0;
    static final int WAITS = 1;
    static final int DONE = 2;

    private static final List<String> KINDS = List.of(
        "READ", "WRITE", "ADD", "SET", "SYNC", "END", "IF", "ELSE", "WHILE", "FORK", "CALL");
    private static final int CALLS = 512;

    private static int looms = 0;
    private static int asked = 0;
    private static int wrong = 0;

    private final LockLoom loom = new LockLoom();
    private final String sentence;
    private int limit = CALLS;
    private int calls = 0;
    private int written = 0;
    private int bodies = 0;

    Loom(String sentence) {
        this.sentence = sentence;
        looms++;
    }

    /** Ends the test: with exit code 1 if an answer was not the one that is due. */
    static void end() {
        System.out.println(looms + " objects, " + asked + " calls, " + wrong + " not as due");
        if (wrong != 0) {
            System.exit(1);
        }
    }

    /** Numbers that are none of 0 .. limit - 1, the nearest ones first. */
    static int[] outside(int limit) {
        return new int[] {-1, limit, -2, limit + 1, 2 * limit, -limit, 64, 256, 1 << 16, HIGHEST, LOWEST, LOWEST + 1};
    }

    /** For the one sentence whose case lies beyond the 512 calls that the document speaks of. */
    Loom withoutLimit() {
        limit = HIGHEST;
        return this;
    }

    private void due(String call, int got, int want) {
        asked++;
        calls++;
        if (got != want) {
            wrong++;
            System.out.println(sentence + " | call " + calls + ": " + call + " answered " + got + ", due is " + want);
        }
        if (calls > limit) {
            wrong++;
            System.out.println(sentence + " | the test itself makes more than " + limit + " calls");
            limit = HIGHEST;
        }
    }

    private void due(String call, boolean got, boolean want) {
        due(call, got ? 1 : 0, want ? 1 : 0);
    }

    void constant(String name, int got, int due) {
        due(name, got, due);
    }

    void statement(int kind, int number, int due) {
        due("statement(" + kind + ", " + number + ")", loom.statement(kind, number), due);
        written += due == NONE ? 0 : 1;
    }

    /** Statements such as "SYNC 1, READ 0, END", each of which comes to the text. */
    void text(String statements) {
        for (String s : statements.isEmpty() ? new String[0] : statements.split(", ")) {
            String[] parts = s.split(" ");
            statement(KINDS.indexOf(parts[0]), parts.length > 1 ? Integer.parseInt(parts[1]) : 0, written + 1);
        }
    }

    void text(int times, String statements) {
        for (int i = 0; i < times; i++) {
            text(statements);
        }
    }

    /** The text so far and these statements are the next body. */
    void body(int requires, String statements) {
        text(statements);
        due("body(" + requires + ")", loom.body(requires), bodies);
        bodies++;
        written = 0;
    }

    void body(String statements) {
        body(0, statements);
    }

    void noBody(String statements) {
        text(statements);
        due("body(0) of " + statements, loom.body(0), NONE);
        written = 0;
    }

    void guard(int cell, int lock) {
        due("guard(" + cell + ", " + lock + ")", loom.guard(cell, lock), true);
    }

    void noGuard(int cell, int lock) {
        due("guard(" + cell + ", " + lock + ")", loom.guard(cell, lock), false);
    }

    void check(int body, int due) {
        due("check(" + body + ")", loom.check(body), due);
    }

    void sound(boolean due) {
        due("sound()", loom.sound(), due);
    }

    void start(int body, int has) {
        due("start(" + body + ", " + has + ")", loom.start(body, has), true);
    }

    void noStart(int body, int has) {
        due("start(" + body + ", " + has + ")", loom.start(body, has), false);
    }

    void steps(int... threads) {
        for (int thread : threads) {
            due("step(" + thread + ")", loom.step(thread), 1);
        }
    }

    void stepsOf(int thread, int times) {
        for (int i = 0; i < times; i++) {
            steps(thread);
        }
    }

    /** A run of one thread: what it has after each step, the last of which leaves it done. */
    void path(int body, int has, int... hasAfter) {
        start(body, has);
        for (int after : hasAfter) {
            state(0, GOES_ON);
            steps(0);
            has(0, after);
        }
        state(0, DONE);
        noStep(0);
    }

    void waits(int thread) {
        due("step(" + thread + ")", loom.step(thread), 0);
    }

    void noStep(int thread) {
        due("step(" + thread + ")", loom.step(thread), NONE);
    }

    void has(int thread, int due) {
        due("has(" + thread + ")", loom.has(thread), due);
    }

    void cell(int c, int due) {
        due("cell(" + c + ")", loom.cell(c), due);
    }

    void holder(int lock, int due) {
        due("holder(" + lock + ")", loom.holder(lock), due);
    }

    void state(int thread, int due) {
        due("state(" + thread + ")", loom.state(thread), due);
    }

    void count(int what, int due) {
        due("count(" + what + ")", loom.count(what), due);
    }

    void threads(int due) {
        count(0, due);
    }

    void stepsDone(int due) {
        count(1, due);
    }

    void races(int due) {
        count(2, due);
    }

    void racePart(int i, int what, int due) {
        due("race(" + i + ", " + what + ")", loom.race(i, what), due);
    }

    void race(int i, int step, int thread, int cell, int write) {
        racePart(i, 0, step);
        racePart(i, 1, thread);
        racePart(i, 2, cell);
        racePart(i, 3, write);
    }

    void noRace(int i) {
        race(i, NONE, NONE, NONE, NONE);
    }

    void stuck(boolean due) {
        due("stuck()", loom.stuck(), due);
    }

    /** All that the calls that change nothing answer, for sentences that end in "nothing happens". */
    int[] look() {
        int[] seen = new int[60];
        int n = 0;
        for (int i = 0; i < 6; i++) {
            seen[n++] = loom.has(i);
            seen[n++] = loom.state(i);
        }
        for (int i = 0; i < 8; i++) {
            seen[n++] = loom.cell(i);
            seen[n++] = loom.check(i);
        }
        for (int i = 0; i < 4; i++) {
            seen[n++] = loom.holder(i);
            seen[n++] = loom.count(i);
            for (int what = 0; what < 4; what++) {
                seen[n++] = loom.race(i, what);
            }
        }
        seen[n++] = loom.sound() ? 1 : 0;
        seen[n++] = loom.stuck() ? 1 : 0;
        calls += n;
        return Arrays.copyOf(seen, n);
    }

    void looksLike(int[] before) {
        int[] now = look();
        if (!Arrays.equals(before, now)) {
            wrong++;
            System.out.println(sentence + " | something happened: " + Arrays.toString(before) + " became " + Arrays.toString(now));
        }
    }
}
