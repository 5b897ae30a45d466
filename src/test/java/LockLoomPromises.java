/** Each promise of the document by its number: ordinary inputs, edges and wrong inputs. */
public final class LockLoomPromises {
    private static final int READ = 0;
    private static final int WRITE = 1;
    private static final int ADD = 2;
    private static final int SET = 3;
    private static final int SYNC = 4;
    private static final int END = 5;
    private static final int IF = 6;
    private static final int ELSE = 7;
    private static final int WHILE = 8;
    private static final int FORK = 9;
    private static final int CALL = 10;
    private static final int NONE = -1;
    private static final int[] FAR = {Integer.MIN_VALUE, Integer.MIN_VALUE + 1, -2, -1, 64, 65, 1 << 30, Integer.MAX_VALUE};

    private static int asked = 0;
    private static int wrong = 0;

    public static void main(String[] args) {
        newObject();
        statementKinds();
        statementNumbers();
        statementLimit();
        bodyNumbers();
        bodyBlocks();
        bodyEmptiesText();
        guards();
        checkAccesses();
        checkHeldLocks();
        checkForkAndCall();
        soundness();
        starting();
        startingAgain();
        stepRefusals();
        stepArithmetic();
        stepIfElse();
        stepWhile();
        stepLocks();
        stepFork();
        stepForkLimit();
        stepCall();
        stepCallLimit();
        stepLimit();
        hasAndCell();
        holders();
        states();
        counts();
        racesOfKinds();
        racesAndForks();
        racesAndLocks();
        racesAreKept();
        stuckness();
        System.out.println(asked + " answers asked, " + wrong + " not as due");
        if (wrong != 0) {
            System.exit(1);
        }
    }

    private static void due(String what, long got, long want) {
        asked++;
        if (got != want) {
            wrong++;
            System.out.println(what + " answered " + got + ", due is " + want);
        }
    }

    private static void due(String what, boolean got, boolean want) {
        due(what, got ? 1 : 0, want ? 1 : 0);
    }

    private static void write(LockLoom x, int... kindsAndNumbers) {
        for (int i = 0; i < kindsAndNumbers.length; i += 2) {
            due("statement " + i / 2, x.statement(kindsAndNumbers[i], kindsAndNumbers[i + 1]), i / 2 + 1);
        }
    }

    private static int body(LockLoom x, int requires, int... kindsAndNumbers) {
        write(x, kindsAndNumbers);
        return x.body(requires);
    }

    private static LockLoom with(int requires, int... kindsAndNumbers) {
        LockLoom x = new LockLoom();
        due("the first body", body(x, requires, kindsAndNumbers), 0);
        return x;
    }

    private static void steps(LockLoom x, int... threads) {
        for (int i = 0; i < threads.length; i++) {
            due("step " + i + " of thread " + threads[i], x.step(threads[i]), 1);
        }
    }

    private static void race(LockLoom x, int i, int step, int thread, int cell, int write) {
        due("race " + i + ", step", x.race(i, 0), step);
        due("race " + i + ", thread", x.race(i, 1), thread);
        due("race " + i + ", cell", x.race(i, 2), cell);
        due("race " + i + ", write", x.race(i, 3), write);
    }

    // Promise 1

    private static void newObject() {
        LockLoom x = new LockLoom();
        due("1: NONE", LockLoom.NONE, -1);
        due("1: sound", x.sound(), true);
        due("1: stuck", x.stuck(), false);
        due("1: check", x.check(0), NONE);
        due("1: start", x.start(0, 3), false);
        due("1: step", x.step(0), NONE);
        due("1: has", x.has(0), 0);
        due("1: state", x.state(0), NONE);
        due("1: race", x.race(0, 0), NONE);
        for (int what = -1; what <= 3; what++) {
            due("1: count", x.count(what), NONE);
        }
        for (int c = 0; c < 8; c++) {
            due("1: cell", x.cell(c), 0);
        }
        for (int l = 0; l < 4; l++) {
            due("1: holder", x.holder(l), NONE);
        }
        due("1: text", x.statement(SET, 0), 1);
        x = new LockLoom();
        for (int c = 0; c < 8; c++) {
            due("1: a body", body(x, 0, READ, c), c);
            due("1: no guards, a READ is right", x.check(c), 1);
        }
        x = new LockLoom();
        for (int c = 0; c < 8; c++) {
            body(x, 15, WRITE, c);
            due("1: no guards, a WRITE is not right", x.check(c), 0);
        }
    }

    // Promise 2

    private static void statementKinds() {
        LockLoom x = new LockLoom();
        for (int kind = 0; kind <= 10; kind++) {
            due("2: kind " + kind, x.statement(kind, 0), kind + 1);
        }
        due("2: kind 11", x.statement(11, 0), NONE);
        for (int far : FAR) {
            due("2: kind " + far, x.statement(far, 0), NONE);
        }
        due("2: what did not come does not count", x.statement(SET, 0), 12);
    }

    private static void statementNumbers() {
        LockLoom x = new LockLoom();
        int size = 0;
        int[] limits = {8, 8, 0, 0, 4, 0, 0, 0, 0, 8, 8};
        for (int kind = 0; kind <= 10; kind++) {
            if (limits[kind] == 0) {
                continue;
            }
            for (int far : FAR) {
                due("2: kind " + kind + " of " + far, x.statement(kind, far), NONE);
            }
            due("2: kind " + kind + " over its limit", x.statement(kind, limits[kind]), NONE);
            for (int number = 0; number < limits[kind]; number++) {
                due("2: kind " + kind + " of " + number, x.statement(kind, number), ++size);
            }
        }
        x = new LockLoom();
        size = 0;
        for (int kind : new int[] {ADD, SET, END, IF, ELSE, WHILE}) {
            for (int far : FAR) {
                due("2: kind " + kind + " of any number", x.statement(kind, far), ++size);
            }
        }
    }

    private static void statementLimit() {
        LockLoom x = new LockLoom();
        for (int i = 1; i <= 64; i++) {
            due("2: statement", x.statement(ADD, 1), i);
        }
        due("2: a 65th", x.statement(ADD, 1), NONE);
        due("2: a 66th", x.statement(END, 1), NONE);
        due("2: 64 are a body", x.body(0), 0);
        due("2: its size", x.check(0), 64);
        due("2: the next text", x.statement(ADD, 1), 1);
        due("2: start", x.start(0, 0), true);
        for (int i = 0; i < 64; i++) {
            due("2: step", x.step(0), 1);
        }
        due("2: done", x.state(0), 2);
        due("2: all were done", x.has(0), 64);
    }

    // Promise 3

    private static void bodyNumbers() {
        LockLoom x = new LockLoom();
        for (int b = 0; b < 8; b++) {
            due("3: number", body(x, 0, SET, b), b);
        }
        due("3: a ninth", body(x, 0, SET, 9), NONE);
        due("3: its text is gone", x.statement(SET, 1), 1);
        due("3: a tenth", x.body(0), NONE);
        due("3: no body 8", x.check(8), NONE);
        for (int b = 0; b < 8; b++) {
            due("3: start", x.start(b, 20), true);
            steps(x, 0);
            due("3: each has its own text", x.has(0), b);
        }
        x = new LockLoom();
        due("3: an empty body", x.body(0), 0);
        due("3: another one", x.body(0), 1);
        due("3: its size", x.check(1), 0);
        int[] requires = {1, 2, 4, 8, 16, -1};
        int[] lowest = {1, 2, 4, 8, 0, 15};
        for (int i = 0; i < requires.length; i++) {
            for (int held = 0; held < 16; held++) {
                x = with(requires[i], SET, 0);
                body(x, held, CALL, 0);
                due("3: the lowest four bits", x.check(1), (lowest[i] & ~held) == 0 ? 1 : 0);
            }
        }
    }

    private static void bodyBlocks() {
        int[][] good = {
            {SYNC, 0, END, 0}, {IF, 0, END, 0}, {WHILE, 0, END, 0}, {IF, 0, ELSE, 0, END, 0},
            {IF, 0, IF, 0, ELSE, 0, END, 0, ELSE, 0, END, 0},
            {IF, 0, ELSE, 0, IF, 0, ELSE, 0, END, 0, END, 0},
            {SYNC, 0, SYNC, 0, WHILE, 0, IF, 0, SYNC, 1, END, 0, ELSE, 0, END, 0, END, 0, END, 0, END, 0},
            {IF, 0, SYNC, 0, END, 0, ELSE, 0, WHILE, 0, END, 0, END, 0, IF, 0, ELSE, 0, END, 0},
        };
        int[][] bad = {
            {END, 0}, {ELSE, 0}, {SYNC, 0}, {IF, 0}, {WHILE, 0}, {IF, 0, ELSE, 0}, {ELSE, 0, END, 0},
            {SYNC, 0, ELSE, 0, END, 0}, {WHILE, 0, ELSE, 0, END, 0}, {IF, 0, ELSE, 0, ELSE, 0, END, 0},
            {IF, 0, SYNC, 0, ELSE, 0, END, 0, END, 0}, {IF, 0, WHILE, 0, ELSE, 0, END, 0, END, 0},
            {IF, 0, END, 0, ELSE, 0}, {IF, 0, END, 0, ELSE, 0, END, 0}, {END, 0, SYNC, 0},
            {IF, 0, ELSE, 0, END, 0, ELSE, 0, END, 0}, {SYNC, 0, END, 0, END, 0}, {SYNC, 0, SYNC, 0, END, 0},
            {IF, 0, ELSE, 0, IF, 0, ELSE, 0, END, 0, ELSE, 0, END, 0},
        };
        LockLoom x = new LockLoom();
        for (int[] blocks : bad) {
            due("3: blocks as they must not be", body(x, 0, blocks), NONE);
            due("3: no body came", x.check(0), NONE);
        }
        for (int i = 0; i < good.length; i++) {
            due("3: blocks as they must be", body(x, 0, good[i]), i);
        }
        x = new LockLoom();
        for (int i = 0; i < 32; i++) {
            due("3: deep", x.statement(SYNC, i % 4), i + 1);
        }
        for (int i = 32; i < 64; i++) {
            due("3: deep", x.statement(END, 0), i + 1);
        }
        due("3: 32 blocks, one within the other", x.body(0), 0);
    }

    private static void bodyEmptiesText() {
        LockLoom x = with(0, SET, 1, SET, 2);
        due("3: empty after a body", x.statement(END, 0), 1);
        due("3: not as it must be", x.body(0), NONE);
        due("3: empty after none", x.statement(SET, 5), 1);
        due("3: the next number", x.body(0), 1);
        due("3: its size", x.check(1), 1);
        due("3: the first one's size", x.check(0), 2);
    }

    // Promise 4

    private static void guards() {
        LockLoom x = with(0, READ, 7);
        for (int c = 0; c < 8; c++) {
            for (int l = -1; l < 4; l++) {
                due("4: guard", x.guard(c, l), true);
            }
            due("4: no lock 4", x.guard(c, 4), false);
            for (int far : FAR) {
                if (far != -1) {
                    due("4: no such lock", x.guard(c, far), false);
                }
                due("4: no such cell", x.guard(far, 0), false);
                due("4: no such cell, and no guard", x.guard(far, -1), false);
            }
        }
        due("4: no cell 8", x.guard(8, 0), false);
        due("4: a refused guard changes nothing", x.check(0), 0);
        due("4: none again", x.guard(7, -1), true);
        due("4: without a guard", x.check(0), 1);
        due("4: refused", x.guard(7, 4), false);
        due("4: still without", x.check(0), 1);
        due("4: another cell's", x.guard(6, 0), true);
        due("4: still without", x.check(0), 1);
        due("4: guarded", x.guard(7, 2), true);
        due("4: a start leaves guards", x.start(0, 0), true);
        due("4: still guarded", x.check(0), 0);
    }

    // Promise 5

    private static void checkAccesses() {
        for (int lock = -1; lock < 4; lock++) {
            for (int held = 0; held < 16; held++) {
                LockLoom x = new LockLoom();
                body(x, held, SET, 0, READ, 3);
                body(x, held, ADD, 0, WRITE, 3);
                due("5: guard", x.guard(3, lock), true);
                boolean isHeld = lock >= 0 && (held >> lock & 1) == 1;
                due("5: READ", x.check(0), isHeld || lock < 0 ? 2 : 1);
                due("5: WRITE", x.check(1), isHeld ? 2 : 1);
            }
        }
        LockLoom x = with(0, READ, 0, WRITE, 1, WRITE, 2);
        due("5: the first one", x.check(0), 1);
        x.guard(0, 0);
        due("5: an earlier one", x.check(0), 0);
        due("5: no such body", x.check(1), NONE);
        for (int far : FAR) {
            due("5: no such body", x.check(far), NONE);
        }
    }

    private static void checkHeldLocks() {
        LockLoom x = with(0, SYNC, 1, WRITE, 0, END, 0, WRITE, 0);
        x.guard(0, 1);
        due("5: behind the SYNC", x.check(0), 3);
        body(x, 0, SYNC, 1, SYNC, 1, END, 0, WRITE, 0, END, 0, WRITE, 0);
        due("5: the same lock twice", x.check(1), 5);
        body(x, 2, SYNC, 1, END, 0, WRITE, 0);
        due("5: required as well", x.check(2), 3);
        body(x, 0, SYNC, 0, WRITE, 0, END, 0);
        due("5: another lock", x.check(3), 1);
        body(x, 0, SYNC, 1, IF, 0, WRITE, 0, ELSE, 0, WRITE, 0, END, 0, WHILE, 0, WRITE, 0, END, 0, WRITE, 0, END, 0);
        due("5: blocks within", x.check(4), 11);
        body(x, 0, IF, 0, SYNC, 1, WRITE, 0, END, 0, ELSE, 0, WRITE, 0, END, 0);
        due("5: not in the ELSE", x.check(5), 5);
        body(x, 0, SYNC, 1, SYNC, 2, WRITE, 0, END, 0, WRITE, 0, SYNC, 0, END, 0, WRITE, 0, END, 0, READ, 0);
        due("5: several locks", x.check(6), 9);
        body(x, 0, WHILE, 0, SYNC, 1, END, 0, READ, 0, END, 0);
        due("5: behind it, in a WHILE", x.check(7), 3);
    }

    private static void checkForkAndCall() {
        LockLoom x = with(0, FORK, 1, CALL, 2, SYNC, 2, CALL, 3, CALL, 4, END, 0);
        due("5: FORK of none", x.check(0), 0);
        body(x, 0, SET, 1);
        due("5: CALL of none", x.check(0), 1);
        body(x, 0, WRITE, 0);
        due("5: CALL of one that is wrong itself", x.check(0), 3);
        body(x, 4, SET, 1);
        due("5: CALL with its lock held", x.check(0), 4);
        body(x, 6, SET, 1);
        due("5: CALL with one of two held", x.check(0), 4);
        body(x, 2, SYNC, 2, CALL, 4, END, 0, CALL, 4);
        due("5: CALL with both, then with one", x.check(5), 3);
        body(x, 15, FORK, 0, FORK, 3);
        due("5: FORK of one that requires", x.check(6), 1);
        body(x, 0, FORK, 7, CALL, 7, SYNC, 0, FORK, 7, CALL, 7, END, 0);
        due("5: FORK and CALL of itself", x.check(7), 6);
    }

    // Promise 6

    private static void soundness() {
        LockLoom x = with(0, READ, 0);
        due("6: one that is right", x.sound(), true);
        x.guard(0, 3);
        due("6: not right", x.sound(), false);
        body(x, 8, WRITE, 0);
        due("6: the first one is not right", x.sound(), false);
        x.guard(0, -1);
        due("6: the last one is not right", x.sound(), false);
        x = with(0, SYNC, 3, CALL, 1, END, 0);
        due("6: no body 1 yet", x.sound(), false);
        body(x, 8, WRITE, 0, SET, 1);
        due("6: no guard", x.sound(), false);
        x.guard(0, 3);
        due("6: all right", x.sound(), true);
        x.body(0);
        due("6: an empty one too", x.sound(), true);
        body(x, 0, FORK, 1);
        due("6: the last of many", x.sound(), false);
        x = new LockLoom();
        for (int b = 0; b < 8; b++) {
            due("6: eight bodies", body(x, 0, CALL, b), b);
            due("6: all right", x.sound(), true);
        }
        x.guard(1, 1);
        due("6: all right", x.sound(), true);
    }

    // Promise 7

    private static void starting() {
        LockLoom x = with(15, SET, 1);
        for (int far : FAR) {
            due("7: no such body", x.start(far, 0), false);
        }
        due("7: no body 1", x.start(1, 0), false);
        due("7: no run", x.count(0), NONE);
        due("7: start", x.start(0, Integer.MIN_VALUE), true);
        due("7: with a number", x.has(0), Integer.MIN_VALUE);
        due("7: one thread", x.count(0), 1);
        due("7: no steps", x.count(1), 0);
        due("7: no races", x.count(2), 0);
        due("7: it can go on", x.state(0), 0);
        due("7: what it requires is not taken", x.holder(0), NONE);
        x.body(0);
        due("7: an empty body", x.start(1, 5), true);
        due("7: is done", x.state(0), 2);
        due("7: and has", x.has(0), 5);
    }

    private static void startingAgain() {
        LockLoom x = with(0, FORK, 0, SYNC, 1, WRITE, 4, SET, 7, END, 0);
        due("7: start", x.start(0, 3), true);
        steps(x, 0, 0, 0, 1);
        due("7: taken", x.holder(1), 0);
        due("7: waits", x.step(1), 0);
        steps(x, 0, 0, 2, 2, 2);
        due("7: refused", x.start(1, 9), false);
        due("7: nothing happened, cell", x.cell(4), 3);
        due("7: nothing happened, threads", x.count(0), 4);
        due("7: nothing happened, steps", x.count(1), 9);
        due("7: nothing happened, lock", x.holder(1), 2);
        due("7: again", x.start(0, 8), true);
        due("7: cells are 0", x.cell(4), 0);
        due("7: locks are free", x.holder(1), NONE);
        due("7: one thread", x.count(0), 1);
        due("7: no steps", x.count(1), 0);
        due("7: the others are gone", x.state(1), NONE);
        due("7: has", x.has(0), 8);
        due("7: the others have nothing", x.has(1), 0);
        steps(x, 0, 0, 0);
        due("7: runs as before", x.cell(4), 8);

        // Thread 1 writes, then a new run has nothing of its accesses, clocks and races.
        x = with(0, WRITE, 0);
        body(x, 0, FORK, 0, FORK, 0);
        x.start(1, 1);
        steps(x, 0, 0, 1, 2);
        due("7: a race", x.count(2), 1);
        x.start(0, 1);
        due("7: no races", x.count(2), 0);
        due("7: none there", x.race(0, 0), NONE);
        steps(x, 0);
        due("7: earlier runs do not race", x.count(2), 0);
        x.start(1, 1);
        steps(x, 0, 0, 1, 2);
        due("7: races again", x.count(2), 1);
        race(x, 0, 3, 2, 0, 1);

        // Thread 0 comes to know of thread 1 by a lock: in the next run it knows nothing of that,
        // and nor does the lock.
        x = with(0, FORK, 1, SYNC, 0, END, 0, WRITE, 0, SYNC, 0, END, 0);
        body(x, 0, WRITE, 0, SYNC, 0, END, 0);
        x.start(0, 1);
        steps(x, 0, 1, 1, 1, 0, 0, 0, 0, 0);
        due("7: before by the lock", x.count(2), 0);
        x.start(0, 1);
        steps(x, 0, 0, 0, 1, 0);
        due("7: not before by a lock of an earlier run", x.count(2), 1);
        race(x, 0, 4, 0, 0, 1);
    }

    // Promise 8

    private static void stepRefusals() {
        LockLoom x = with(0, FORK, 1, SET, 4);
        due("8: no run", x.step(0), NONE);
        body(x, 0, ADD, 1);
        x.start(0, 5);
        due("8: no thread 1", x.step(1), NONE);
        for (int far : FAR) {
            due("8: no such thread", x.step(far), NONE);
        }
        due("8: nothing happened", x.count(1), 0);
        steps(x, 0, 1);
        due("8: done", x.step(1), NONE);
        due("8: no thread 2", x.step(2), NONE);
        due("8: steps", x.count(1), 2);
        due("8: has", x.has(1), 6);
        steps(x, 0);
        due("8: done", x.step(0), NONE);
        due("8: steps", x.count(1), 3);
    }

    private static void stepArithmetic() {
        LockLoom x = with(0, WRITE, 7, ADD, 5, WRITE, 0, SET, -9, READ, 7, ADD, -1, READ, 0, READ, 3);
        x.start(0, Integer.MAX_VALUE);
        steps(x, 0);
        due("8: WRITE", x.cell(7), Integer.MAX_VALUE);
        due("8: it still has it", x.has(0), Integer.MAX_VALUE);
        steps(x, 0);
        due("8: ADD goes round", x.has(0), Integer.MIN_VALUE + 4);
        due("8: ADD leaves the cell", x.cell(7), Integer.MAX_VALUE);
        steps(x, 0, 0);
        due("8: SET", x.has(0), -9);
        steps(x, 0);
        due("8: READ", x.has(0), Integer.MAX_VALUE);
        steps(x, 0, 0);
        due("8: READ of another", x.has(0), Integer.MIN_VALUE + 4);
        due("8: READ leaves the cell", x.cell(0), Integer.MIN_VALUE + 4);
        steps(x, 0);
        due("8: READ of one never written", x.has(0), 0);
        due("8: done", x.state(0), 2);
    }

    private static void stepIfElse() {
        LockLoom x = with(0, IF, 0, ADD, 10, ELSE, 0, SET, 20, END, 0, ADD, 100);
        body(x, 0, IF, 0, ADD, 4, END, 0, ADD, 100);
        hasAfterSteps(x, 0, 1, 1, 11, 11, 111);
        hasAfterSteps(x, 0, -1, -1, 9, 9, 109);
        hasAfterSteps(x, 0, 0, 0, 20, 20, 120);
        hasAfterSteps(x, 1, 1, 1, 5, 5, 105);
        hasAfterSteps(x, 1, 0, 0, 100);
        hasAfterSteps(x, 0, 1, 1, 11, 11, 111);
        due("8: a block's number does not matter", x.count(0), 1);
        // An IF within each half of another one.
        body(x, 0, IF, 0, IF, 0, SET, 0, ELSE, 0, SET, 1, END, 0, ELSE, 0, IF, 0, SET, 2, ELSE, 0, SET, 3, END, 0, END, 0);
        hasAfterSteps(x, 2, 9, 9, 9, 0, 0, 0);
        hasAfterSteps(x, 2, 0, 0, 0, 3, 3, 3);
    }

    private static void hasAfterSteps(LockLoom x, int body, int has, int... after) {
        due("8: start", x.start(body, has), true);
        for (int i = 0; i < after.length; i++) {
            due("8: not done before step " + i, x.state(0), 0);
            due("8: step " + i, x.step(0), 1);
            due("8: has after step " + i, x.has(0), after[i]);
        }
        due("8: done", x.state(0), 2);
    }

    private static void stepWhile() {
        LockLoom x = with(0, WHILE, 0, ADD, -1, END, 0, SET, 40);
        x.start(0, 0);
        steps(x, 0, 0);
        due("8: WHILE with 0", x.has(0), 40);
        due("8: done", x.state(0), 2);
        x.start(0, 2);
        steps(x, 0, 0, 0, 0, 0);
        due("8: twice", x.has(0), 0);
        steps(x, 0, 0);
        due("8: before the SET", x.has(0), 0);
        steps(x, 0);
        due("8: behind", x.has(0), 40);
        due("8: done", x.step(0), NONE);
        due("8: steps", x.count(1), 8);
        body(x, 0, WHILE, 0, IF, 0, SYNC, 3, SET, 0, END, 0, ELSE, 0, ADD, 9, END, 0, END, 0);
        x.start(1, -1);
        steps(x, 0, 0, 0, 0);
        due("8: SYNC within", x.holder(3), 0);
        steps(x, 0);
        due("8: END of the SYNC", x.holder(3), NONE);
        steps(x, 0, 0, 0);
        due("8: not the ELSE's", x.has(0), 0);
        due("8: done", x.state(0), 2);
        body(x, 0, WHILE, 0, END, 0);
        x.start(2, 1);
        for (int i = 0; i < 50; i++) {
            due("8: without an end", x.step(0), 1);
        }
        due("8: goes on", x.state(0), 0);
    }

    private static void stepLocks() {
        LockLoom x = with(0, FORK, 0, SYNC, 0, SYNC, 0, SYNC, 1, END, 0, END, 0, END, 0);
        x.start(0, 0);
        steps(x, 0, 1, 0, 0, 0);
        due("8: lock 0", x.holder(0), 0);
        due("8: lock 1", x.holder(1), 0);
        due("8: lock 2", x.holder(2), NONE);
        due("8: waits", x.step(1), 0);
        due("8: waits again", x.step(1), 0);
        due("8: waiting is no step", x.count(1), 5);
        steps(x, 0);
        due("8: lock 1 is free", x.holder(1), NONE);
        steps(x, 0);
        due("8: once less", x.holder(0), 0);
        due("8: waits still", x.step(1), 0);
        steps(x, 0);
        due("8: free", x.holder(0), NONE);
        steps(x, 1);
        due("8: taken", x.holder(0), 1);
        steps(x, 2);
        due("8: the third waits", x.step(2), 0);
    }

    private static void stepFork() {
        LockLoom x = with(0, FORK, 5, FORK, 1, FORK, 2, ADD, 1);
        body(x, 0, ADD, 100);
        x.body(0);
        x.start(0, 7);
        steps(x, 0);
        due("8: FORK of none", x.count(0), 1);
        steps(x, 0);
        due("8: FORK", x.count(0), 2);
        due("8: with what it has", x.has(1), 7);
        due("8: it goes on", x.state(1), 0);
        steps(x, 0);
        due("8: FORK of an empty one", x.count(0), 3);
        due("8: is done", x.state(2), 2);
        due("8: with what it has", x.has(2), 7);
        steps(x, 1, 0);
        due("8: each has its own", x.has(0), 8);
        due("8: each has its own", x.has(1), 107);

        x = with(0, FORK, 1);
        x.start(0, 0);
        due("8: a body that comes during the run", body(x, 0, SET, 3), 1);
        steps(x, 0, 1);
        due("8: is there", x.has(1), 3);
    }

    private static void stepForkLimit() {
        LockLoom x = with(0, FORK, 1, FORK, 1, FORK, 1, FORK, 1, FORK, 1, FORK, 1, SET, 9);
        x.body(0);
        x.start(0, 2);
        for (int i = 1; i <= 5; i++) {
            steps(x, 0);
            due("8: threads", x.count(0), i + 1);
        }
        steps(x, 0);
        due("8: FORK with 6 threads", x.count(0), 6);
        due("8: no thread 6", x.state(6), NONE);
        due("8: it goes on", x.state(0), 0);
        steps(x, 0);
        due("8: behind it", x.has(0), 9);
    }

    private static void stepCall() {
        LockLoom x = with(0, CALL, 1, ADD, 1, CALL, 7, CALL, 2, CALL, 1);
        body(x, 0, ADD, 10, CALL, 3);
        x.body(0);
        body(x, 0, SYNC, 0, WRITE, 5, END, 0);
        x.start(0, 0);
        steps(x, 0);
        due("8: CALL alone", x.has(0), 0);
        steps(x, 0, 0, 0);
        due("8: a lock in a called body", x.holder(0), 0);
        steps(x, 0, 0);
        due("8: the called body's WRITE", x.cell(5), 10);
        steps(x, 0);
        due("8: behind the CALL", x.has(0), 11);
        steps(x, 0, 0);
        due("8: CALLs of none and of an empty one", x.count(1), 9);
        steps(x, 0, 0);
        due("8: called again", x.has(0), 21);
        steps(x, 0, 0, 0, 0);
        due("8: at the end of all", x.state(0), 2);
        due("8: steps", x.count(1), 15);

        // The lock is taken round the CALL, and once more within.
        x = with(0, SYNC, 1, CALL, 1, END, 0);
        body(x, 2, SYNC, 1, END, 0);
        x.start(0, 0);
        steps(x, 0, 0, 0, 0);
        due("8: held still", x.holder(1), 0);
        steps(x, 0);
        due("8: free", x.holder(1), NONE);
    }

    private static void stepCallLimit() {
        LockLoom x = with(0, CALL, 0, ADD, 1);
        x.start(0, 0);
        for (int i = 0; i < 7; i++) {
            steps(x, 0);
            due("8: deeper", x.has(0), 0);
        }
        steps(x, 0);
        due("8: CALL with 8 bodies", x.has(0), 0);
        for (int i = 1; i <= 8; i++) {
            due("8: goes on", x.state(0), 0);
            steps(x, 0);
            due("8: back again", x.has(0), i);
        }
        due("8: done", x.state(0), 2);
        due("8: steps", x.count(1), 16);
    }

    // The document names this edge, though 512 calls do not reach it.
    private static void stepLimit() {
        LockLoom x = with(0, FORK, 1, SYNC, 0, WHILE, 0, END, 0, END, 0);
        body(x, 0, SYNC, 0, END, 0);
        x.start(0, 1);
        steps(x, 0, 0);
        for (int i = 2; i < 4000; i++) {
            if (i % 1000 == 0) {
                due("8: waits", x.step(1), 0);
            }
            due("8: step " + i, x.step(0), 1);
        }
        due("8: 4,000 steps", x.count(1), 4000);
        due("8: no step more", x.step(0), NONE);
        due("8: not even one that waits", x.step(1), NONE);
        due("8: still 4,000", x.count(1), 4000);
    }

    // Promises 9 and 10

    private static void hasAndCell() {
        LockLoom x = with(0, FORK, 1, SET, 6, WRITE, 2);
        body(x, 0, ADD, 4, WRITE, 3);
        due("9: no run", x.has(0), 0);
        due("10: no run", x.cell(2), 0);
        x.start(0, 5);
        due("9: at the start", x.has(0), 5);
        due("9: no thread 1", x.has(1), 0);
        steps(x, 0, 1, 1, 0, 0);
        due("9: of a done one", x.has(0), 6);
        due("9: of another", x.has(1), 9);
        due("9: no thread 2", x.has(2), 0);
        due("9: no thread 6", x.has(6), 0);
        due("10: cell 2", x.cell(2), 6);
        due("10: cell 3", x.cell(3), 9);
        due("10: cell 1", x.cell(1), 0);
        due("10: no cell 8", x.cell(8), 0);
        for (int far : FAR) {
            due("9: no such thread", x.has(far), 0);
            due("10: no such cell", x.cell(far), 0);
        }
    }

    // Promise 11

    private static void holders() {
        LockLoom x = with(0, FORK, 1, SYNC, 3, END, 0);
        body(x, 0, SYNC, 0, END, 0);
        x.start(0, 0);
        steps(x, 0, 0, 1);
        due("11: lock 3", x.holder(3), 0);
        due("11: lock 0", x.holder(0), 1);
        due("11: lock 1", x.holder(1), NONE);
        due("11: no lock 4", x.holder(4), NONE);
        for (int far : FAR) {
            due("11: no such lock", x.holder(far), NONE);
        }
        steps(x, 0, 1);
        due("11: free", x.holder(3), NONE);
        due("11: free", x.holder(0), NONE);
    }

    // Promise 12

    private static void states() {
        LockLoom x = with(0, FORK, 1, SYNC, 2, SYNC, 2, END, 0, END, 0);
        body(x, 0, SYNC, 2, END, 0);
        due("12: no run", x.state(0), NONE);
        x.start(0, 0);
        due("12: no thread 1", x.state(1), NONE);
        steps(x, 0);
        due("12: before a free lock", x.state(1), 0);
        steps(x, 0);
        due("12: would wait", x.state(1), 1);
        due("12: before its own lock", x.state(0), 0);
        steps(x, 0, 0);
        due("12: would wait still", x.state(1), 1);
        steps(x, 0);
        due("12: can go on", x.state(1), 0);
        due("12: done", x.state(0), 2);
        steps(x, 1);
        due("12: within", x.state(1), 0);
        steps(x, 1);
        due("12: done too", x.state(1), 2);
        due("12: asking is no step", x.count(1), 7);
        due("12: no thread 2", x.state(2), NONE);
        for (int far : FAR) {
            due("12: no such thread", x.state(far), NONE);
        }
    }

    // Promise 13

    private static void counts() {
        LockLoom x = with(0, FORK, 1, WRITE, 0, SET, 1);
        body(x, 0, WRITE, 0);
        due("13: no run", x.count(0), NONE);
        x.start(0, 0);
        steps(x, 0, 0, 1);
        due("13: threads", x.count(0), 2);
        due("13: steps", x.count(1), 3);
        due("13: races", x.count(2), 1);
        due("13: another what", x.count(3), NONE);
        for (int far : FAR) {
            due("13: another what", x.count(far), NONE);
        }
    }

    // Promise 14

    private static void racesOfKinds() {
        int[] kinds = {READ, WRITE};
        for (int first : kinds) {
            for (int second : kinds) {
                for (int cell = 4; cell < 6; cell++) {
                    LockLoom x = with(0, FORK, 1, first, 4);
                    body(x, 0, second, cell);
                    x.start(0, 0);
                    steps(x, 0, 0, 1);
                    boolean races = cell == 4 && (first == WRITE || second == WRITE);
                    due("14: two accesses", x.count(2), races ? 1 : 0);
                    due("14: the later one", x.race(0, 1), races ? 1 : NONE);
                    due("14: its kind", x.race(0, 3), races ? second : NONE);
                }
            }
        }
        LockLoom x = with(0, FORK, 1, READ, 6, WRITE, 6, READ, 6);
        body(x, 0, READ, 6, WRITE, 6);
        due("14: no run", x.race(0, 0), NONE);
        x.start(0, 0);
        steps(x, 0, 0, 1, 0, 1, 0);
        due("14: races", x.count(2), 3);
        race(x, 0, 3, 0, 6, 1);
        race(x, 1, 4, 1, 6, 1);
        race(x, 2, 5, 0, 6, 0);
        due("14: no race 3", x.race(3, 0), NONE);
        due("14: another what", x.race(0, 4), NONE);
        for (int far : FAR) {
            due("14: no such race", x.race(far, 0), NONE);
            due("14: no such what", x.race(0, far), NONE);
        }
    }

    private static void racesAndForks() {
        // What its maker did before the FORK is before; what it does after is not.
        LockLoom x = with(0, WRITE, 0, FORK, 1, WRITE, 1);
        body(x, 0, WRITE, 0, FORK, 2, READ, 1);
        body(x, 0, WRITE, 0, WRITE, 1);
        x.start(0, 0);
        steps(x, 0, 0, 1, 0, 1, 2);
        due("14: before by FORKs", x.count(2), 0);
        steps(x, 1);
        due("14: after the FORK", x.count(2), 1);
        race(x, 0, 6, 1, 1, 0);
        steps(x, 2);
        race(x, 1, 7, 2, 1, 1);
        due("14: one race, though with two", x.count(2), 2);

        // An earlier access races though a later one of a third thread does not.
        x = with(0, FORK, 1, WRITE, 0, FORK, 1);
        body(x, 0, WRITE, 0);
        x.start(0, 0);
        steps(x, 0, 1, 0);
        race(x, 0, 2, 0, 0, 1);
        steps(x, 0, 2);
        race(x, 1, 4, 2, 0, 1);
        due("14: races", x.count(2), 2);
    }

    private static void racesAndLocks() {
        int[] locked = {SYNC, 1, WRITE, 0, END, 0};
        LockLoom x = with(0, FORK, 1, FORK, 1, FORK, 1, SYNC, 1, WRITE, 0, END, 0);
        body(x, 0, locked);
        x.start(0, 0);
        steps(x, 0, 0, 0, 2, 2, 2, 0, 0, 0, 3, 3, 3, 1, 1, 1);
        due("14: one lock for all", x.count(2), 0);

        x = with(0, FORK, 1, SYNC, 2, WRITE, 0, END, 0);
        body(x, 0, locked);
        x.start(0, 0);
        steps(x, 0, 0, 0, 0, 1, 1, 1);
        race(x, 0, 5, 1, 0, 1);

        // The inner END leaves the lock taken: what follows it is before through the outer one.
        x = with(0, FORK, 1, SYNC, 1, SYNC, 1, END, 0, WRITE, 0, END, 0, WRITE, 2);
        body(x, 0, SYNC, 1, WRITE, 0, WRITE, 2, END, 0);
        x.start(0, 0);
        steps(x, 0, 0, 0, 0, 0, 0, 1, 0, 1);
        due("14: before the outer END", x.count(2), 0);
        steps(x, 1);
        race(x, 0, 9, 1, 2, 1);

        // Taking it once more is no taking of a free one: nothing is before by it.
        x = with(0, SYNC, 1, FORK, 1, WRITE, 3, SYNC, 1, END, 0, END, 0);
        body(x, 0, WRITE, 3, SYNC, 1, READ, 3, END, 0);
        x.start(0, 0);
        steps(x, 0, 0, 0, 0, 0, 1);
        race(x, 0, 5, 1, 3, 1);
        due("14: waits", x.step(1), 0);
        steps(x, 0, 1, 1);
        due("14: now before", x.count(2), 1);

        // END of an IF or a WHILE frees nothing.
        x = with(0, FORK, 1, WRITE, 0, IF, 0, END, 0);
        body(x, 0, SYNC, 0, READ, 0, END, 0);
        x.start(0, 1);
        steps(x, 0, 0, 0, 0, 1, 1);
        race(x, 0, 5, 1, 0, 0);

        // Through a third thread that met the cell not at all.
        x = with(0, FORK, 1, FORK, 2, WRITE, 0, SYNC, 0, END, 0);
        body(x, 0, SYNC, 0, END, 0, SYNC, 1, END, 0);
        body(x, 0, SYNC, 1, READ, 0, END, 0, READ, 0);
        x.start(0, 0);
        steps(x, 0, 0, 0, 0, 0, 1, 1, 1, 1, 2, 2, 2, 2);
        due("14: through those between", x.count(2), 0);
        x.start(0, 0);
        steps(x, 0, 0, 1, 1, 1, 1, 0, 0, 0, 2, 2);
        race(x, 0, 10, 2, 0, 0);
    }

    private static void racesAreKept() {
        LockLoom x = with(0, FORK, 1, WHILE, 0, WRITE, 7, END, 0);
        body(x, 0, WHILE, 0, READ, 7, END, 0);
        x.start(0, 1);
        steps(x, 0, 0, 1, 0, 0, 0);
        int at = 6;
        for (int i = 0; i < 70; i++) {
            int thread = i % 2 == 0 ? 1 : 0;
            due("14: access", x.step(thread), 1);
            due("14: races", x.count(2), i + 1);
            if (i < 64) {
                race(x, i, at, thread, 7, thread == 0 ? 1 : 0);
            } else {
                for (int what = 0; what < 4; what++) {
                    due("14: the first 64 alone", x.race(i, what), NONE);
                }
            }
            steps(x, thread, thread);
            at += 3;
        }
        race(x, 0, 6, 1, 7, 0);
        race(x, 63, 6 + 63 * 3, 0, 7, 1);
    }

    // Promise 15

    private static void stuckness() {
        LockLoom x = with(0, FORK, 1, SYNC, 0, SYNC, 1, END, 0, END, 0);
        body(x, 0, SYNC, 1, SYNC, 0, END, 0, END, 0);
        due("15: no run", x.stuck(), false);
        x.start(0, 0);
        due("15: at the start", x.stuck(), false);
        steps(x, 0, 0, 1);
        due("15: both wait", x.stuck(), true);
        due("15: thread 0", x.step(0), 0);
        due("15: thread 1", x.step(1), 0);
        due("15: still", x.stuck(), true);
        x.start(0, 0);
        steps(x, 0, 0, 0);
        due("15: one waits", x.stuck(), false);
        due("15: it waits", x.state(1), 1);
        steps(x, 0, 0);
        due("15: one is done", x.stuck(), false);
        steps(x, 1, 1, 1, 1);
        due("15: all are done", x.stuck(), false);
        body(x, 0, FORK, 3, FORK, 0, SET, 1);
        x.body(0);
        x.start(2, 0);
        steps(x, 0, 0, 2, 2, 3);
        due("15: one can go on", x.stuck(), false);
        steps(x, 0);
        due("15: two done, two wait", x.stuck(), true);
        x.start(3, 0);
        due("15: an empty body", x.stuck(), false);
    }
}
