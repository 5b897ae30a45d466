/** The document's 'Terms', sentence by sentence: each has a test of its own, with its edges. */
public final class LockLoomTerms {
    private static final int NONE = Loom.NONE;
    private static final int LOWEST = Loom.LOWEST;
    private static final int HIGHEST = Loom.HIGHEST;
    private static final int GOES_ON = Loom.GOES_ON;
    private static final int WAITS = Loom.WAITS;
    private static final int DONE = Loom.DONE;
    private static final int[] NOT_ZERO = {1, -1, 2, 256, 1 << 16, HIGHEST, LOWEST};

    public static void main(String[] args) {
        nothingThere();
        cells();
        cellsHoldInts();
        locks();
        noGuardAtFirst();
        aGuardOrNone();
        sizeOfABody();
        blocksInAFullBody();
        bitsOfRequires();
        reading();
        writing();
        adding();
        setting();
        syncBeginsABlock();
        endOfTheInnermost();
        ifNotZero();
        elseInAnIfsOwnBlock();
        elseOnce();
        elseIfNot();
        whileNotZero();
        forkWithWhatItHas();
        callInThisPlace();
        blocksHaveEnds();
        blocksWithinOthers();

        heldByRequires();
        heldBySyncsAround();
        rightRead();
        rightWrite();
        rightFork();
        rightCall();
        allOthersAreRight();

        sixThreads();
        doneThreadsCount();
        numberedAsTheyCame();
        eightBodies();
        eightBodiesOfEachThread();
        bodyAtItsEnd();
        allBodiesAtTheirEnds();
        firstBodyAtItsEnd();
        emptyBodies();
        lockSoManyTimes();

        syncOfAnothersLock();
        syncOfItsOwnLock();
        endOfASync();
        endOfAWhile();
        ifWithZero();
        elseReached();
        whileWithZero();
        forkOfNone();
        callOfNone();
        forkWithSixThreads();
        callWithEightBodies();
        withoutAJump();
        whatIsNotRight();

        beforeInTheSameThread();
        beforeByAFork();
        beforeByAForkThatMadeNone();
        beforeByALock();
        beforeByAnotherLock();
        beforeByALockTakenAgain();
        beforeByLaterTakers();
        beforeByOtherEnds();
        beforeThroughOthers();
        racesOfOneWrite();
        racesOfTheSameCell();
        racesOfAnotherThread();
        racesWithAnyEarlierAccess();
        racesOnce();
        waitingIsNoStep();
        Loom.end();
    }

    // What there is

    private static void nothingThere() {
        Loom x = new Loom("NONE = -1: Nothing there");
        x.constant("NONE", LockLoom.NONE, -1);
    }

    private static void cells() {
        Loom x = new Loom("CELLS 0 .. 7");
        for (int c = 0; c < 8; c++) {
            x.text("WRITE " + c + ", ADD 1");
        }
        for (int c = 7; c >= 0; c--) {
            x.text("READ " + c);
        }
        x.body("");
        x.start(0, 50);
        x.stepsOf(0, 16);
        for (int c = 0; c < 8; c++) {
            x.cell(c, 50 + c);
        }
        for (int c = 7; c >= 0; c--) {
            x.steps(0);
            x.has(0, 50 + c);
        }
        x.state(0, DONE);
        x.cell(-1, 0);
        x.cell(8, 0);
    }

    private static void cellsHoldInts() {
        Loom x = new Loom("CELLS are ints");
        x.body("WRITE 5, SET 3, READ 5");
        for (int number : new int[] {HIGHEST, LOWEST, -1, 0, 1, 255, 256, 1 << 16, -65537}) {
            x.start(0, number);
            x.stepsOf(0, 2);
            x.cell(5, number);
            x.steps(0);
            x.has(0, number);
        }
    }

    private static void locks() {
        Loom x = new Loom("LOCKS 0 .. 3");
        for (int l = 0; l < 4; l++) {
            x.body("SYNC " + l + ", END");
        }
        x.body("FORK 0, FORK 1, FORK 2, FORK 3");
        x.start(4, 0);
        x.stepsOf(0, 4);
        x.steps(1, 2, 3, 4);
        for (int l = 0; l < 4; l++) {
            x.holder(l, l + 1);
        }
        x.holder(-1, NONE);
        x.holder(4, NONE);
        for (int l = 0; l < 4; l++) {
            x.steps(l + 1);
            x.holder(l, NONE);
            for (int other = l + 1; other < 4; other++) {
                x.holder(other, other + 1);
            }
        }
    }

    private static void noGuardAtFirst() {
        Loom x = new Loom("Each cell has a GUARD, .. none (at first)");
        for (int c = 0; c < 8; c++) {
            x.body(15, "READ " + c + ", WRITE " + c);
            x.check(c, 1);
        }
        x = new Loom("Each cell has a GUARD, .. none (at first), without locks");
        for (int c = 0; c < 8; c++) {
            x.body(0, "READ " + c);
            x.check(c, 1);
        }
    }

    private static void aGuardOrNone() {
        Loom x = new Loom("Each cell has a GUARD, a lock, or none");
        for (int c = 0; c < 8; c++) {
            x.body("READ " + c);
        }
        for (int c = 0; c < 8; c++) {
            x.guard(c, c % 4);
            for (int other = 0; other < 8; other++) {
                x.check(other, other == c ? 0 : 1);
            }
            x.guard(c, NONE);
            x.check(c, 1);
        }
    }

    private static void sizeOfABody() {
        Loom x = new Loom("A BODY is a row of at most 64 STATEMENTS");
        x.text(64, "ADD 1");
        x.statement(2, 1, NONE);
        x.body("");
        x.check(0, 64);
        x.start(0, 100);
        x.stepsOf(0, 63);
        x.state(0, GOES_ON);
        x.has(0, 163);
        x.steps(0);
        x.state(0, DONE);
        x.has(0, 164);
        x.text(63, "ADD 1");
        x.body("");
        x.check(1, 63);
    }

    private static void blocksInAFullBody() {
        Loom x = new Loom("A BODY is a row of at most 64 STATEMENTS, the 64th an END");
        x.text("SYNC 3");
        x.text(62, "ADD 1");
        x.text("END");
        x.statement(5, 0, NONE);
        x.body("");
        x.start(0, 0);
        x.stepsOf(0, 63);
        x.holder(3, 0);
        x.steps(0);
        x.holder(3, NONE);
        x.state(0, DONE);
        x.text("IF");
        x.text(62, "ADD 1");
        x.body("END");
        x.path(1, 0, 0);

        x = new Loom("A BODY is a row of at most 64 STATEMENTS, so that an END does not come");
        x.text(63, "ADD 1");
        x.text("IF");
        x.statement(5, 0, NONE);
        x.noBody("");
        x.check(0, NONE);
    }

    private static void bitsOfRequires() {
        for (int set = 0; set < 16; set++) {
            Loom x = new Loom("it REQUIRES a set of locks (bit l for lock l): " + set);
            for (int l = 0; l < 4; l++) {
                x.guard(l, l);
                x.body(set, "WRITE " + l);
                x.check(l, (set >> l & 1) == 1 ? 1 : 0);
            }
        }
    }

    // The kinds

    private static void reading() {
        Loom x = new Loom("READ c: what the thread has becomes what is in cell c");
        x.body("WRITE 2, SET 9, READ 2, READ 3, READ 2");
        x.path(0, 7, 7, 9, 7, 0, 7);
        x.cell(2, 7);
        x.cell(3, 0);
    }

    private static void writing() {
        Loom x = new Loom("WRITE c: the other way");
        x.body("WRITE 2, SET 9, WRITE 2, WRITE 4");
        x.start(0, 7);
        x.steps(0);
        x.cell(2, 7);
        x.has(0, 7);
        x.steps(0);
        x.cell(2, 7);
        x.steps(0);
        x.cell(2, 9);
        x.has(0, 9);
        x.cell(4, 0);
        x.steps(0);
        x.cell(4, 9);
        x.cell(3, 0);
    }

    private static void adding() {
        Loom x = new Loom("ADD n: to what it has");
        x.body("ADD 1, ADD -1, ADD -1, ADD 2");
        x.path(0, HIGHEST, LOWEST, HIGHEST, HIGHEST - 1, LOWEST);
        x.path(0, 0, 1, 0, -1, 1);
        x.body("ADD " + LOWEST + ", ADD " + HIGHEST + ", ADD 0");
        x.path(1, LOWEST, 0, HIGHEST, HIGHEST);
        x.path(1, 1, LOWEST + 1, 0, 0);
        x.body("ADD " + LOWEST + ", IF, SET 8, END");
        x.path(2, LOWEST, 0, 0);
    }

    private static void setting() {
        Loom x = new Loom("SET n: to what it has");
        x.body("SET 1, SET " + LOWEST + ", SET " + HIGHEST + ", SET 0, SET -1");
        x.path(0, 5, 1, LOWEST, HIGHEST, 0, -1);
    }

    private static void syncBeginsABlock() {
        Loom x = new Loom("SYNC l: a block begins, for which lock l is taken");
        x.body("SET 1, SYNC 2, SET 2, SET 3, END, SET 4");
        x.start(0, 0);
        int[] holders = {NONE, 0, 0, 0, NONE, NONE};
        for (int holder : holders) {
            x.steps(0);
            x.holder(2, holder);
            x.holder(0, NONE);
            x.holder(1, NONE);
            x.holder(3, NONE);
        }
        x.state(0, DONE);
        x.has(0, 4);
    }

    private static void endOfTheInnermost() {
        Loom x = new Loom("END: the innermost block ends");
        x.body("SYNC 0, SYNC 1, END, IF, END, WHILE, SET 0, END, END");
        x.start(0, 1);
        x.steps(0, 0);
        x.holder(1, 0);
        x.steps(0);
        x.holder(1, NONE);
        // IF, its END, WHILE, SET, its END, and the WHILE again leave the outer block as it is.
        for (int i = 0; i < 6; i++) {
            x.holder(0, 0);
            x.steps(0);
        }
        x.holder(0, 0);
        x.steps(0);
        x.holder(0, NONE);
        x.state(0, DONE);
    }

    private static void ifNotZero() {
        Loom x = new Loom("IF: a block, that is done if what it has is not 0");
        x.body("IF, SET 5, END, ADD 10");
        for (int number : NOT_ZERO) {
            x.path(0, number, number, 5, 5, 15);
        }
        x.path(0, 0, 0, 10);
    }

    private static void elseInAnIfsOwnBlock() {
        Loom x = new Loom("ELSE: within an IF's own block");
        x.noBody("ELSE");
        x.noBody("ELSE, END");
        x.noBody("ELSE, IF, END");
        x.noBody("SYNC 0, ELSE, END");
        x.noBody("WHILE, ELSE, END");
        x.noBody("IF, SYNC 0, ELSE, END, END");
        x.noBody("IF, WHILE, ELSE, END, END");
        x.noBody("IF, END, ELSE");
        x.noBody("IF, END, ELSE, END");
        x.noBody("IF, ELSE, END, ELSE, END");
        x.noBody("IF, ELSE, SYNC 0, ELSE, END, END");
        x.check(0, NONE);
        x.body("IF, ELSE, END");
        x.body("SYNC 0, IF, ELSE, END, END");
        x.body("IF, SYNC 0, END, ELSE, WHILE, END, END");
        x.body("WHILE, IF, SET 0, ELSE, SET 1, END, END");
    }

    private static void elseOnce() {
        Loom x = new Loom("ELSE: within an IF's own block, once");
        x.noBody("IF, ELSE, ELSE, END");
        x.noBody("IF, SET 1, ELSE, SET 2, ELSE, SET 3, END");
        x.noBody("IF, ELSE, IF, END, ELSE, END");
        x.noBody("IF, ELSE, SYNC 0, END, ELSE, END");
        x.noBody("IF, ELSE, IF, ELSE, END, ELSE, END");
        x.noBody("IF, IF, ELSE, ELSE, END, END");
        x.check(0, NONE);
        x.body("IF, IF, ELSE, END, ELSE, END");
        x.body("IF, ELSE, IF, ELSE, END, END");
        x.body("IF, IF, ELSE, END, ELSE, IF, ELSE, END, END");
        x.body("IF, ELSE, END, IF, ELSE, END");
    }

    private static void elseIfNot() {
        Loom x = new Loom("ELSE: what follows is done if not");
        x.body("IF, SET 0, ELSE, SET 7, END, ADD 10");
        for (int number : NOT_ZERO) {
            x.path(0, number, number, 0, 0, 10);
        }
        x.path(0, 0, 0, 7, 7, 17);
    }

    private static void whileNotZero() {
        Loom x = new Loom("WHILE: a block that is done again and again while it is not 0");
        x.body("WHILE, ADD -1, END, ADD 10");
        x.path(0, 0, 0, 10);
        x.path(0, 1, 1, 0, 0, 0, 10);
        x.path(0, 3, 3, 2, 2, 2, 1, 1, 1, 0, 0, 0, 10);
        x.body("WHILE, ADD 1, END");
        x.path(1, -2, -2, -1, -1, -1, 0, 0, 0);
        x.body("WHILE, ADD " + LOWEST + ", END");
        x.path(2, LOWEST, LOWEST, 0, 0, 0);
        x.body("WHILE, END");
        x.path(3, 0, 0);
        x.start(3, 1);
        x.stepsOf(0, 100);
        x.state(0, GOES_ON);
        x.body("WHILE, SET 0, ADD 1, ADD -1, END");
        x.path(4, 9, 9, 0, 1, 0, 0, 0);
    }

    private static void forkWithWhatItHas() {
        Loom x = new Loom("FORK b: a thread more, which begins body b with what this one has");
        x.body("FORK 1, SET 3, FORK 1, FORK 0");
        x.body("ADD 100");
        x.start(0, LOWEST);
        x.steps(0);
        x.threads(2);
        x.has(1, LOWEST);
        x.steps(0, 0);
        x.threads(3);
        x.has(1, LOWEST);
        x.has(2, 3);
        x.steps(1);
        x.has(0, 3);
        x.has(1, LOWEST + 100);
        x.has(2, 3);
        x.state(1, DONE);
        x.state(2, GOES_ON);
        // A body may begin a thread of itself.
        x.steps(0, 3);
        x.threads(5);
        x.has(4, 3);

        x = new Loom("FORK b: a thread more, which begins body b, not the bodies that this one is in");
        x.body("SYNC 0, CALL 1, END, SET 8");
        x.body("FORK 2, SET 7");
        x.body("ADD 1");
        x.start(0, 4);
        x.steps(0, 0, 0, 1);
        x.has(1, 5);
        x.state(1, DONE);
        x.holder(0, 0);
        x.steps(0, 0, 0);
        x.has(0, 8);
        x.state(0, DONE);
    }

    private static void callInThisPlace() {
        Loom x = new Loom("CALL b: body b is done in this place");
        x.body("CALL 1, ADD 1, SYNC 0, CALL 1, END");
        x.body("SYNC 0, WRITE 2, ADD 10, END");
        x.start(0, 5);
        x.steps(0);
        x.has(0, 5);
        x.threads(1);
        x.steps(0);
        x.holder(0, 0);
        x.steps(0, 0);
        x.cell(2, 5);
        x.has(0, 15);
        x.steps(0);
        x.holder(0, NONE);
        x.steps(0);
        x.has(0, 16);
        x.steps(0, 0, 0, 0, 0);
        x.cell(2, 16);
        x.has(0, 26);
        x.steps(0);
        x.holder(0, 0);
        x.steps(0);
        x.holder(0, NONE);
        x.state(0, DONE);
        x.stepsDone(13);
    }

    private static void blocksHaveEnds() {
        Loom x = new Loom("Blocks (SYNC, IF, WHILE) have their ENDs in their body");
        x.noBody("SYNC 0");
        x.noBody("IF");
        x.noBody("WHILE");
        x.noBody("IF, ELSE");
        x.noBody("END");
        x.noBody("SET 1, END");
        x.noBody("END, SYNC 0");
        x.noBody("END, SYNC 0, END");
        x.noBody("SYNC 0, END, END");
        x.noBody("IF, END, END");
        x.noBody("WHILE, END, END");
        x.noBody("IF, ELSE, END, END");
        x.noBody("SYNC 0, SYNC 0, END");
        x.noBody("IF, WHILE, END");
        x.noBody("SYNC 0, END, WHILE");
        x.noBody("SYNC 0, CALL 1");
        x.check(0, NONE);
        x.body("SYNC 0, END");
        x.body("IF, END");
        x.body("WHILE, END");
        x.body("SYNC 0, END, IF, END, WHILE, END");
    }

    private static void blocksWithinOthers() {
        Loom x = new Loom("Blocks have their ENDs in their body, one within the other");
        x.text(32, "SYNC 1");
        x.text(32, "END");
        x.body("");
        x.start(0, 0);
        x.stepsOf(0, 32);
        for (int i = 0; i < 32; i++) {
            x.holder(1, 0);
            x.steps(0);
        }
        x.holder(1, NONE);
        x.state(0, DONE);
        x.text(21, "IF");
        x.text(21, "ELSE, END");
        x.body("");
        x.path(1, 0, 0, 0);
        x.body("SYNC 0, WHILE, IF, SYNC 2, END, ELSE, IF, END, END, SET 0, END, END");
        x.path(2, 4, 4, 4, 4, 4, 4, 4, 0, 0, 0, 0);
    }

    // What is right

    private static void heldByRequires() {
        Loom x = new Loom("HELD there (those that the body requires");
        x.guard(0, 1);
        x.body(2, "WRITE 0, IF, WRITE 0, ELSE, WRITE 0, END, SYNC 1, END, WRITE 0, SYNC 0, WRITE 0, END, WRITE 0");
        x.check(0, 13);
        x.body(13, "SET 0, WRITE 0");
        x.check(1, 1);
    }

    private static void heldBySyncsAround() {
        Loom x = new Loom("HELD there (.. and those of the SYNCs around it)");
        x.guard(0, 1);
        x.body("SYNC 1, WRITE 0, END, WRITE 0");
        x.check(0, 3);
        x.body("READ 1, READ 0, SYNC 1, END");
        x.check(1, 1);
        x.body("SYNC 1, SYNC 1, END, WRITE 0, END, WRITE 0");
        x.check(2, 5);
        x.body("SYNC 0, WRITE 0, END");
        x.check(3, 1);
        x.body("SYNC 1, IF, WRITE 0, ELSE, WRITE 0, END, WHILE, WRITE 0, END, WRITE 0, END, WRITE 0");
        x.check(4, 11);
        x.body("IF, SYNC 1, WRITE 0, END, ELSE, WRITE 0, END");
        x.check(5, 5);
        x.body("SYNC 1, SYNC 2, WRITE 0, END, WRITE 0, SYNC 0, WRITE 0, END, WRITE 0, END, READ 0");
        x.check(6, 10);
        x.body("WHILE, SYNC 1, END, READ 0, END");
        x.check(7, 3);
        // What a CALL of another body stands in is not held by that body.
        x = new Loom("HELD there, not where it is called");
        x.guard(0, 1);
        x.body("SYNC 1, CALL 1, END");
        x.body("WRITE 0");
        x.check(0, 3);
        x.check(1, 0);
    }

    private static boolean isHeld(int lock, int held) {
        return lock != NONE && (held >> lock & 1) == 1;
    }

    private static void rightRead() {
        for (int lock = -1; lock < 4; lock++) {
            for (int held = 0; held < 16; held++) {
                Loom x = new Loom("READ c: the guard of c is held, or c has none");
                x.guard(6, lock);
                x.body(held, "READ 6");
                x.check(0, lock == NONE || isHeld(lock, held) ? 1 : 0);
            }
        }
    }

    private static void rightWrite() {
        for (int lock = -1; lock < 4; lock++) {
            for (int held = 0; held < 16; held++) {
                Loom x = new Loom("WRITE c: the guard of c is held");
                x.guard(6, lock);
                x.body(held, "WRITE 6");
                x.check(0, isHeld(lock, held) ? 1 : 0);
            }
        }
    }

    private static void rightFork() {
        Loom x = new Loom("FORK b: body b is there, and requires none");
        x.body("FORK 1");
        x.check(0, 0);
        x.body("FORK 1");
        x.check(0, 1);
        x.check(1, 1);
        x.body(15, "FORK 2");
        x.check(2, 0);
        x.body("FORK 7");
        x.check(3, 0);
        for (int b = 4; b < 8; b++) {
            x.body("");
        }
        x.check(3, 1);
        for (int required = 1; required < 32; required++) {
            x = new Loom("FORK b: requires none, though this one holds all: " + required);
            x.body(15, "FORK 1");
            x.body(required, "");
            x.check(0, required == 16 ? 1 : 0);
        }
    }

    private static void rightCall() {
        Loom x = new Loom("CALL b: it is there");
        x.body(15, "CALL 1");
        x.check(0, 0);
        x.body("CALL 1");
        x.check(0, 1);
        x.check(1, 1);
        x.body(15, "CALL 7");
        x.check(2, 0);
        for (int b = 3; b < 8; b++) {
            x.body("");
        }
        x.check(2, 1);
        for (int required = 0; required < 16; required++) {
            for (int held = 0; held < 16; held++) {
                x = new Loom("CALL b: all that it requires are held: " + required);
                x.body(held, "CALL 1");
                x.body(required, "");
                x.check(0, (required & ~held) == 0 ? 1 : 0);
            }
        }
        x = new Loom("CALL b: all that it requires are held, by SYNCs and what this one requires");
        x.body(6, "");
        x.body(2, "SYNC 2, CALL 0, END, CALL 0");
        x.check(1, 3);
    }

    private static void allOthersAreRight() {
        Loom x = new Loom("all others are right");
        for (int c = 0; c < 8; c++) {
            x.guard(c, c % 4);
        }
        x.body("ADD 3, SET 4, SYNC 0, END, IF, ELSE, END, WHILE, END");
        x.check(0, 9);
        // Numbers that would be wrong for another kind.
        x.statement(2, -1, 1);
        x.statement(3, 9, 2);
        x.statement(6, -7, 3);
        x.statement(7, 99, 4);
        x.statement(5, LOWEST, 5);
        x.statement(8, HIGHEST, 6);
        x.statement(5, 8, 7);
        x.body("");
        x.check(1, 7);
        x.sound(true);
    }

    // Threads, bodies within each other, locks

    private static void sixThreads() {
        Loom x = new Loom("A RUN has at most 6 threads");
        x.body("FORK 1, FORK 1, FORK 1, FORK 1, FORK 1, FORK 1");
        x.body("SET 4, SET 5");
        x.start(0, 1);
        for (int threads = 2; threads <= 6; threads++) {
            x.steps(0);
            x.threads(threads);
            x.state(threads - 1, GOES_ON);
            x.state(threads, NONE);
        }
        x.steps(0);
        x.threads(6);
        x.state(6, NONE);
        x.noStep(6);
        for (int t = 1; t < 6; t++) {
            x.steps(t);
            x.has(t, 4);
        }
    }

    private static void doneThreadsCount() {
        Loom x = new Loom("A RUN has at most 6 threads, done ones too");
        x.body("FORK 1, FORK 1, FORK 1, FORK 1, FORK 1, FORK 1, SET 9");
        x.body("");
        x.start(0, 1);
        x.stepsOf(0, 5);
        for (int t = 1; t < 6; t++) {
            x.state(t, DONE);
        }
        x.steps(0);
        x.threads(6);
        x.has(6, 0);
        x.steps(0);
        x.has(0, 9);
    }

    private static void numberedAsTheyCame() {
        Loom x = new Loom("threads, numbered as they came");
        x.body("FORK 1, SET 20, FORK 1, SET 40, FORK 1");
        x.body("ADD 1, FORK 2");
        x.body("ADD 5, FORK 3, ADD 1");
        x.body("");
        x.start(0, 10);
        x.steps(0, 1, 1, 0, 0, 2, 2, 2, 0, 0);
        int[] has = {40, 11, 17, 20, 16, 40};
        int[] states = {DONE, DONE, DONE, GOES_ON, DONE, GOES_ON};
        for (int t = 0; t < 6; t++) {
            x.has(t, has[t]);
            x.state(t, states[t]);
        }
    }

    private static void eightBodies() {
        Loom x = new Loom("in a body that was called from another one, and so on, 8 bodies at most");
        for (int b = 0; b < 6; b++) {
            x.body("CALL " + (b + 1));
        }
        x.body("CALL 7, CALL 7");
        x.body("ADD 1, CALL 0, ADD 10");
        x.start(0, 0);
        x.stepsOf(0, 7);
        x.steps(0);
        x.has(0, 1);
        x.steps(0, 0);
        x.has(0, 11);
        x.state(0, GOES_ON);
        // Back in body 6 there is room for one more again.
        x.steps(0, 0);
        x.has(0, 12);
        x.steps(0, 0);
        x.has(0, 22);
        x.state(0, DONE);
        x.stepsDone(14);
    }

    private static void eightBodiesOfEachThread() {
        Loom x = new Loom("8 bodies at most, each thread has its own");
        x.body("ADD 1, CALL 0, FORK 1");
        x.body("SET 0, CALL 0");
        x.start(0, 0);
        x.stepsOf(0, 16);
        x.has(0, 8);
        x.threads(1);
        x.steps(0);
        x.threads(2);
        x.steps(1, 1);
        x.stepsOf(1, 14);
        x.has(1, 7);
        x.threads(2);
        x.steps(1);
        x.threads(3);
        x.has(2, 7);
    }

    private static void bodyAtItsEnd() {
        Loom x = new Loom("where a body is at its end it stands behind the CALL");
        x.body("CALL 1, ADD 1, CALL 1, ADD 2");
        x.body("ADD 10, CALL 2, ADD 20");
        x.body("ADD 100");
        x.path(0, 0, 0, 10, 10, 110, 130, 131, 131, 141, 141, 241, 261, 263);
        // The end of a body may be reached by a jump; behind the CALL may be a block's END.
        x.body("WHILE, CALL 4, END, SET 5");
        x.body("ADD -1, IF, ADD 0, ELSE, END");
        x.path(3, 2, 2, 2, 1, 1, 1, 1, 1, 1, 1, 0, 0, 0, 0, 0, 5);
        x.body("CALL 6, ADD 3");
        x.body("WHILE, SET 0, END");
        x.path(5, 0, 0, 0, 3);
        x.path(5, 1, 1, 1, 0, 0, 0, 3);
    }

    private static void allBodiesAtTheirEnds() {
        Loom x = new Loom("where a body is at its end it stands behind the CALL, where that is the end too");
        for (int b = 0; b < 7; b++) {
            x.body("CALL " + (b + 1));
        }
        x.body("SET 6");
        x.start(0, 0);
        x.stepsOf(0, 7);
        x.state(0, GOES_ON);
        x.steps(0);
        x.has(0, 6);
        x.state(0, DONE);
        x.stepsDone(8);
        x = new Loom("where a body is at its end, by a CALL with 8 bodies");
        x.body("CALL 0");
        x.path(0, 3, 3, 3, 3, 3, 3, 3, 3, 3);
        x.stepsDone(8);
    }

    private static void firstBodyAtItsEnd() {
        Loom x = new Loom("where the first one is, it is DONE");
        x.body("SET 1");
        x.path(0, 5, 1);
        x.body("IF, SET 1, END");
        x.path(1, 0, 0);
        x.path(1, 2, 2, 1, 1);
        x.body("IF, SET 1, ELSE, SET 2, END");
        x.path(2, 0, 0, 2, 2);
        x.path(2, 7, 7, 1, 1);
        x.body("IF, ELSE, END");
        x.path(3, 0, 0, 0);
        x.path(3, 1, 1, 1);
        x.body("WHILE, SET 0, END");
        x.path(4, 0, 0);
        // The END of a WHILE at the end of a body is not the body's end.
        x.path(4, 1, 1, 0, 0, 0);
        x.body("CALL 0");
        x.path(5, 5, 5, 1);
        x.body("FORK 0");
        x.path(6, 5, 5);
        x.state(1, GOES_ON);
        x.body("SYNC 0, END");
        x.path(7, 5, 5, 5);
    }

    private static void emptyBodies() {
        Loom x = new Loom("where a body is at its end, one without statements");
        x.body("");
        x.path(0, 8);
        x.has(0, 8);
        x.stepsDone(0);
        x.body("CALL 0, ADD 1, CALL 0");
        x.path(1, 8, 8, 9, 9);
        x.body("FORK 0");
        x.start(2, 8);
        x.steps(0);
        x.threads(2);
        x.state(1, DONE);
        x.noStep(1);
        x.has(1, 8);
        x.stuck(false);
        // A WHILE round it goes on for ever, and yet each step ends.
        x.body("WHILE, CALL 0, END");
        x.start(3, 1);
        x.stepsOf(0, 90);
        x.state(0, GOES_ON);
        x.stepsDone(90);
    }

    private static void lockSoManyTimes() {
        Loom x = new Loom("A lock is free, or taken by a thread, so many times");
        x.text(19, "SYNC 2");
        x.text("CALL 0");
        x.text(19, "END");
        x.body("");
        x.start(0, 0);
        x.holder(2, NONE);
        // 152 times in all: the CALL of the eighth body does nothing.
        x.stepsOf(0, 8 * 20);
        x.stepsOf(0, 8 * 19 - 1);
        x.holder(2, 0);
        x.state(0, GOES_ON);
        x.steps(0);
        x.holder(2, NONE);
        x.state(0, DONE);
    }

    // Steps

    private static void syncOfAnothersLock() {
        Loom x = new Loom("SYNC: if another thread has the lock it WAITS: nothing happens");
        x.body("FORK 1, SYNC 3, WRITE 0, END");
        x.body("SYNC 3, WRITE 0, END");
        x.start(0, 7);
        x.steps(0, 0, 0);
        int[] before = x.look();
        x.waits(1);
        x.waits(1);
        x.looksLike(before);
        x.state(1, WAITS);
        x.holder(3, 0);
        x.stepsDone(3);
        // It stands before the SYNC still, and takes the lock once.
        x.steps(0, 1);
        x.holder(3, 1);
        x.steps(1, 1);
        x.holder(3, NONE);
        x.state(1, DONE);
        x.races(0);

        x = new Loom("SYNC: if another thread has the lock it WAITS, be it the one that made it");
        x.body("SYNC 3, FORK 1, END");
        x.body("SYNC 3, END");
        x.start(0, 7);
        x.steps(0, 0);
        x.waits(1);
        x.steps(0, 1);
        x.holder(3, 1);
    }

    private static void syncOfItsOwnLock() {
        Loom x = new Loom("SYNC: else it has it once more");
        x.body("FORK 1, SYNC 3, SYNC 3, SYNC 3, END, END, END");
        x.body("SYNC 3, END");
        x.start(0, 0);
        x.steps(0);
        for (int i = 0; i < 3; i++) {
            x.state(0, GOES_ON);
            x.steps(0);
            x.holder(3, 0);
            x.state(1, WAITS);
        }
        x.steps(0, 0);
        x.waits(1);
        x.steps(0);
        x.state(1, GOES_ON);
        x.steps(1);
        x.holder(3, 1);
    }

    private static void endOfASync() {
        Loom x = new Loom("END of a SYNC: once less (free, if it was the last time)");
        x.body("SYNC 1, SYNC 1, SYNC 0, END, END, END, SET 4");
        x.start(0, 0);
        x.steps(0, 0, 0);
        x.holder(1, 0);
        x.holder(0, 0);
        x.steps(0);
        x.holder(1, 0);
        x.holder(0, NONE);
        x.steps(0);
        x.holder(1, 0);
        x.steps(0);
        x.holder(1, NONE);
        x.steps(0);
        x.has(0, 4);
        // Free is free: it can be taken again, and freed again.
        x.body("SYNC 1, END, SYNC 1, END");
        x.start(1, 0);
        for (int i = 0; i < 2; i++) {
            x.steps(0);
            x.holder(1, 0);
            x.steps(0);
            x.holder(1, NONE);
        }
        x.state(0, DONE);
    }

    private static void endOfAWhile() {
        Loom x = new Loom("END of a WHILE: it stands before the WHILE again");
        x.body("ADD 0, WHILE, ADD 0, WHILE, SET 0, END, ADD 1, READ 0, END, ADD 5");
        // Its own WHILE: neither the one within, nor the one around, nor the body's beginning.
        x.path(0, 2, 2, 2, 2, 2, 0, 0, 0, 1, 0, 0, 0, 5);
        x.body("WHILE, END");
        x.start(1, 1);
        x.stepsOf(0, 7);
        x.state(0, GOES_ON);
        x.has(0, 1);
        x.body("WHILE, SYNC 0, IF, ADD -1, END, END, END");
        x.path(2, 1, 1, 1, 1, 0, 0, 0, 0, 0);
        x.holder(0, NONE);
    }

    private static void ifWithZero() {
        Loom x = new Loom("IF: if it has 0, it stands behind the ELSE, or behind the END");
        x.body("IF, SET 1, ELSE, ADD 2, END, ADD 4");
        x.path(0, 0, 0, 2, 2, 6);
        x.body("IF, SET 1, END, ADD 4");
        x.path(1, 0, 0, 4);
        // Its own ELSE or END, not one of an IF within.
        x.body("IF, IF, SET 1, ELSE, SET 2, END, ELSE, ADD 8, END, ADD 16");
        x.path(2, 0, 0, 8, 8, 24);
        x.body("IF, IF, SET 1, ELSE, SET 2, END, END, ADD 16");
        x.path(3, 0, 0, 16);
        x.body("IF, ELSE, IF, SET 1, ELSE, ADD 8, END, END, ADD 16");
        x.path(4, 0, 0, 0, 8, 8, 8, 24);
        x.body("IF, SYNC 0, WHILE, END, END, END, ADD 16");
        x.path(5, 0, 0, 16);
    }

    private static void elseReached() {
        Loom x = new Loom("ELSE: behind the END");
        x.body("IF, SET 0, ELSE, SET 9, END, ADD 4");
        x.path(0, 1, 1, 0, 0, 4);
        x.body("IF, SET 0, ELSE, IF, END, WHILE, END, SYNC 0, END, IF, ELSE, END, SET 9, END, ADD 4");
        x.path(1, 1, 1, 0, 0, 4);
        x.body("IF, IF, SET 0, ELSE, SET 9, END, ADD 2, ELSE, SET 9, END, ADD 4");
        x.path(2, 1, 1, 1, 0, 0, 2, 2, 6);
        x.body("SYNC 0, IF, ELSE, END, END");
        x.path(3, 1, 1, 1, 1, 1);
        x.holder(0, NONE);
        x.threads(1);
    }

    private static void whileWithZero() {
        Loom x = new Loom("WHILE: if it has 0, behind the END");
        x.body("WHILE, SET 9, END, ADD 4");
        x.path(0, 0, 0, 4);
        x.body("WHILE, WHILE, IF, END, END, SYNC 0, END, SET 9, END, ADD 4");
        x.path(1, 0, 0, 4);
        x.body("WHILE, WHILE, SET 0, END, ADD 4, READ 0, END, ADD 8");
        x.path(2, 1, 1, 1, 0, 0, 0, 4, 0, 0, 0, 8);
    }

    private static void forkOfNone() {
        Loom x = new Loom("FORK of a body that is not there: nothing, it goes on");
        x.body("FORK 1, FORK 7, SET 5, FORK 1");
        x.start(0, 3);
        x.steps(0, 0);
        x.threads(1);
        x.has(0, 3);
        x.has(1, 0);
        x.state(1, NONE);
        x.state(0, GOES_ON);
        x.stepsDone(2);
        x.steps(0);
        x.has(0, 5);
        // What counts is whether it is there at the step.
        x.body("ADD 1");
        x.steps(0);
        x.threads(2);
        x.steps(1);
        x.has(1, 6);
    }

    private static void callOfNone() {
        Loom x = new Loom("CALL of a body that is not there: nothing, it goes on");
        x.body("CALL 1, CALL 7, SET 5, CALL 1");
        x.start(0, 3);
        x.steps(0, 0);
        x.has(0, 3);
        x.state(0, GOES_ON);
        x.stepsDone(2);
        x.steps(0);
        x.has(0, 5);
        x.body("ADD 1");
        x.steps(0, 0);
        x.has(0, 6);
        x.state(0, DONE);
    }

    private static void forkWithSixThreads() {
        Loom x = new Loom("FORK with 6 threads: nothing, it goes on");
        x.body("FORK 1, FORK 1, FORK 1, FORK 1, FORK 1, FORK 1, FORK 0, ADD 1");
        x.body("ADD 10");
        x.start(0, 3);
        x.stepsOf(0, 5);
        x.steps(5);
        x.steps(0, 0);
        x.threads(6);
        x.has(0, 3);
        x.has(5, 13);
        x.state(5, DONE);
        x.has(6, 0);
        x.stepsDone(8);
        x.state(0, GOES_ON);
        x.steps(0);
        x.has(0, 4);
        x.state(0, DONE);
    }

    private static void callWithEightBodies() {
        Loom x = new Loom("CALL with 8 bodies: nothing, it goes on");
        x.body("ADD 1, CALL 0, ADD 10");
        x.start(0, 0);
        x.stepsOf(0, 15);
        x.has(0, 8);
        x.steps(0);
        x.has(0, 8);
        x.stepsDone(16);
        // Behind the CALL that did nothing, and then behind the seven that did.
        for (int i = 1; i <= 8; i++) {
            x.state(0, GOES_ON);
            x.steps(0);
            x.has(0, 8 + 10 * i);
        }
        x.state(0, DONE);
        x.stepsDone(24);
    }

    private static void withoutAJump() {
        Loom x = new Loom("Without a jump it stands before the next one");
        x.body("SET 1, ADD 2, WRITE 0, SET 9, READ 0, SYNC 0, ADD 4, END, IF, ADD 8, END, FORK 1, CALL 7, ADD 16");
        x.body("");
        x.path(0, 5, 1, 3, 3, 9, 3, 3, 7, 7, 7, 15, 15, 15, 15, 31);
        x.stepsDone(14);
    }

    private static void whatIsNotRight() {
        Loom x = new Loom("A STEP of a thread does its statement, be it right or not");
        x.guard(0, 1);
        x.body("WRITE 0, SET 1, READ 0, FORK 1, CALL 1, WRITE 2");
        x.body(15, "ADD 10");
        x.check(0, 0);
        x.path(0, 6, 6, 1, 6, 6, 6, 16, 16);
        x.cell(0, 6);
        x.cell(2, 16);
        x.threads(2);
        x.steps(1);
        x.has(1, 16);
        x.state(1, DONE);
    }

    // Before, and races

    private static void beforeInTheSameThread() {
        Loom x = new Loom("BEFORE: if it is an earlier one of the same thread");
        x.body("WRITE 0, READ 0, WRITE 0, CALL 1, WRITE 0");
        x.body("READ 0, WRITE 0");
        x.start(0, 4);
        x.stepsOf(0, 7);
        x.state(0, DONE);
        x.races(0);
    }

    private static void beforeByAFork() {
        Loom x = new Loom("BEFORE: if it is a FORK and that one of the thread that it made");
        x.body("WRITE 0, FORK 1, WRITE 1, FORK 1");
        x.body("WRITE 0, WRITE 1");
        x.start(0, 0);
        x.steps(0, 0, 0, 1);
        x.races(0);
        // What comes after the FORK is not before.
        x.steps(1);
        x.races(1);
        x.race(0, 4, 1, 1, 1);
        // Another FORK is before what another thread does: thread 1's accesses are not before it.
        x.steps(0, 2);
        x.race(1, 6, 2, 0, 1);
        x.steps(2);
        x.race(2, 7, 2, 1, 1);
        x.races(3);

        x = new Loom("BEFORE: a FORK, not the other way round");
        x.body("FORK 1, WRITE 0");
        x.body("WRITE 0");
        x.start(0, 0);
        x.steps(0, 1);
        x.state(1, DONE);
        x.races(0);
        x.steps(0);
        x.race(0, 2, 0, 0, 1);
    }

    private static void beforeByAForkThatMadeNone() {
        Loom x = new Loom("BEFORE: not by a FORK with 6 threads, which made none");
        x.body("FORK 1, FORK 1, FORK 1, FORK 1, FORK 1, WRITE 0, FORK 1");
        x.body("READ 0");
        x.start(0, 0);
        x.stepsOf(0, 7);
        x.steps(5);
        x.race(0, 7, 5, 0, 0);
        x.steps(1);
        x.race(1, 8, 1, 0, 0);
    }

    private static void beforeByALock() {
        Loom x = new Loom("BEFORE: an END after which a lock is free, and a later SYNC by which it is taken");
        x.body("FORK 1, WRITE 0, SYNC 2, WRITE 1, END, WRITE 3");
        x.body("WRITE 4, SYNC 2, WRITE 0, WRITE 1, END, WRITE 1, WRITE 3");
        x.start(0, 0);
        x.stepsOf(0, 6);
        x.stepsOf(1, 6);
        x.races(0);
        // What thread 0 did behind the END is not before.
        x.steps(1);
        x.races(1);
        x.race(0, 12, 1, 3, 1);

        x = new Loom("BEFORE: not what is done before that SYNC");
        x.body("FORK 1, SYNC 2, WRITE 1, END");
        x.body("READ 1, SYNC 2, READ 1, END");
        x.start(0, 0);
        x.stepsOf(0, 4);
        x.steps(1);
        x.race(0, 4, 1, 1, 0);
        x.steps(1, 1);
        x.races(1);

        x = new Loom("BEFORE: a SYNC that is earlier than the END");
        x.body("FORK 1, WRITE 1, SYNC 2, END");
        x.body("SYNC 2, END, READ 1");
        x.start(0, 0);
        x.steps(0, 1, 1, 0, 0, 0, 1);
        x.race(0, 6, 1, 1, 0);
    }

    private static void beforeByAnotherLock() {
        for (int first = 0; first < 4; first++) {
            for (int second = 0; second < 4; second++) {
                Loom x = new Loom("BEFORE: the same lock is taken");
                x.body("FORK 1, SYNC " + first + ", WRITE 0, END");
                x.body("SYNC " + second + ", WRITE 0, END");
                x.start(0, 0);
                x.stepsOf(0, 4);
                x.steps(1, 1);
                x.races(first == second ? 0 : 1);
            }
        }
    }

    private static void beforeByALockTakenAgain() {
        Loom x = new Loom("BEFORE: an END after which a lock is free, not an inner one alone");
        x.body("FORK 1, SYNC 1, SYNC 1, END, WRITE 0, END");
        x.body("SYNC 1, WRITE 0, END");
        x.start(0, 0);
        x.stepsOf(0, 5);
        x.waits(1);
        x.steps(0, 1, 1);
        x.races(0);

        x = new Loom("BEFORE: a SYNC by which the lock, free then, is taken, and the ones within it");
        x.body("FORK 1, WRITE 0, SYNC 1, END");
        x.body("SYNC 1, SYNC 1, READ 0, END, READ 0, END, READ 0");
        x.start(0, 0);
        x.stepsOf(0, 4);
        x.stepsOf(1, 7);
        x.races(0);
    }

    private static void beforeByLaterTakers() {
        Loom x = new Loom("BEFORE: a later SYNC, be it the next one or not");
        x.body("FORK 1, FORK 1, FORK 1, FORK 1, FORK 1, SYNC 1, WRITE 0, END");
        x.body("SYNC 1, WRITE 0, END");
        x.start(0, 0);
        x.stepsOf(0, 8);
        for (int t = 5; t > 0; t--) {
            x.stepsOf(t, 3);
        }
        x.races(0);

        x = new Loom("BEFORE: a later SYNC, though another thread had the lock between");
        x.body("FORK 1, FORK 2, WRITE 0, SYNC 1, END");
        x.body("SYNC 1, END");
        x.body("SYNC 1, END, READ 0");
        x.start(0, 0);
        x.stepsOf(0, 5);
        x.steps(1, 1, 2, 2, 2);
        x.races(0);
    }

    private static void beforeByOtherEnds() {
        Loom x = new Loom("BEFORE: not by the END of an IF or of a WHILE");
        x.body("FORK 1, SYNC 0, END, WRITE 0, IF, SET 0, END, WHILE, END");
        x.body("SYNC 0, READ 0, END");
        x.start(0, 1);
        x.stepsOf(0, 8);
        x.state(0, DONE);
        x.steps(1, 1);
        x.race(0, 9, 1, 0, 0);

        x = new Loom("BEFORE: not by the END of a WHILE that was done");
        x.body("FORK 1, WRITE 0, WHILE, SET 0, END");
        x.body("SYNC 0, READ 0, END");
        x.start(0, 1);
        x.stepsOf(0, 6);
        x.state(0, DONE);
        x.steps(1, 1);
        x.race(0, 7, 1, 0, 0);
    }

    private static void beforeThroughOthers() {
        Loom x = new Loom("BEFORE: and through any that stand between them so: two locks");
        x.body("FORK 1, FORK 2, WRITE 0, SYNC 0, END");
        x.body("SYNC 0, END, SYNC 1, END");
        x.body("SYNC 1, END, READ 0");
        x.start(0, 0);
        x.steps(0, 0, 0, 0, 0, 1, 1, 1, 1, 2, 2, 2);
        x.races(0);
        // The other way round the chain is broken.
        x.start(0, 0);
        x.steps(0, 0, 1, 1, 1, 1, 0, 0, 0, 2, 2, 2);
        x.race(0, 11, 2, 0, 0);

        x = new Loom("BEFORE: and through any that stand between them so: a lock, then FORKs");
        x.body("FORK 1, WRITE 0, SYNC 0, END");
        x.body("SYNC 0, END, FORK 2");
        x.body("FORK 3");
        x.body("WRITE 0");
        x.start(0, 0);
        x.steps(0, 0, 0, 0, 1, 1, 1, 2, 3);
        x.races(0);
        x.start(0, 0);
        x.steps(0, 1, 1, 0, 0, 0, 1, 2, 3);
        x.race(0, 8, 3, 0, 1);

        x = new Loom("BEFORE: and through any that stand between them so: a FORK, then a lock");
        x.body("FORK 2, WRITE 0, FORK 1");
        x.body("SYNC 0, END");
        x.body("SYNC 0, END, READ 0");
        x.start(0, 0);
        x.steps(0, 0, 0, 2, 2, 1, 1, 1);
        x.races(0);
    }

    private static void racesOfOneWrite() {
        String[] kinds = {"READ 4", "WRITE 4"};
        for (int first = 0; first < 2; first++) {
            for (int second = 0; second < 2; second++) {
                for (int maker = 0; maker < 2; maker++) {
                    Loom x = new Loom("RACES: one of both being a WRITE: " + kinds[first] + ", " + kinds[second]);
                    x.body("FORK 1, " + kinds[maker == 0 ? first : second]);
                    x.body(kinds[maker == 0 ? second : first]);
                    x.start(0, 0);
                    x.steps(0, maker, 1 - maker);
                    if (first + second == 0) {
                        x.races(0);
                        x.noRace(0);
                    } else {
                        x.races(1);
                        x.race(0, 2, 1 - maker, 4, second);
                    }
                }
            }
        }
    }

    private static void racesOfTheSameCell() {
        for (int first = 0; first < 8; first++) {
            for (int second = 0; second < 8; second++) {
                Loom x = new Loom("RACES: an earlier access to the same cell");
                x.body("FORK 1, WRITE " + first);
                x.body("WRITE " + second);
                x.start(0, 0);
                x.steps(0, 0, 1);
                x.races(first == second ? 1 : 0);
                x.racePart(0, 2, first == second ? second : NONE);
            }
        }
    }

    private static void racesOfAnotherThread() {
        for (int first = 0; first < 6; first++) {
            for (int second = 0; second < 6; second++) {
                for (int kind = 0; kind < 2; kind++) {
                    Loom x = new Loom("RACES: an earlier access by another thread: " + first + ", then " + second);
                    x.body("FORK 1, FORK 1, FORK 1, FORK 1, FORK 1, CALL 1");
                    x.body((kind == 0 ? "READ 0" : "WRITE 0") + ", WRITE 0");
                    x.start(0, 0);
                    x.stepsOf(0, 6);
                    x.steps(first);
                    if (first == second) {
                        x.steps(second);
                        x.races(0);
                    } else {
                        x.steps(second);
                        x.races(kind);
                        x.steps(second);
                        x.races(kind + 1);
                        x.race(kind, 8, second, 0, 1);
                    }
                }
            }
        }
    }

    private static void racesWithAnyEarlierAccess() {
        Loom x = new Loom("RACES: an earlier access, though a later one is before it");
        x.body("FORK 1, WRITE 0, FORK 1");
        x.body("WRITE 0");
        x.start(0, 0);
        x.steps(0, 1, 0, 0, 2);
        x.race(0, 2, 0, 0, 1);
        x.race(1, 4, 2, 0, 1);
        x.races(2);

        x = new Loom("RACES: an earlier WRITE, though the same thread has read since");
        x.body("FORK 1, READ 0");
        x.body("WRITE 0, READ 0");
        x.start(0, 0);
        x.steps(0, 1, 1, 0);
        x.race(0, 3, 0, 0, 0);

        x = new Loom("RACES: an earlier READ, though a WRITE came since and is before it");
        x.body("FORK 1, WRITE 0, FORK 2");
        x.body("READ 0");
        x.body("WRITE 0");
        x.start(0, 0);
        x.steps(0, 1, 0, 0, 2);
        x.race(0, 2, 0, 0, 1);
        x.race(1, 4, 2, 0, 1);

        x = new Loom("RACES: not with what is before it, but what comes then races with it");
        x.body("FORK 1, SYNC 0, END, WRITE 0");
        x.body("READ 0, SYNC 0, END, WRITE 0");
        x.start(0, 0);
        x.steps(0, 1, 1, 1, 0, 0, 0);
        x.races(0);
        x.steps(1);
        x.race(0, 7, 1, 0, 1);

        x = new Loom("RACES: an earlier READ, though another one is before it");
        x.body("FORK 1, READ 0, FORK 2");
        x.body("READ 0");
        x.body("WRITE 0");
        x.start(0, 0);
        x.steps(0, 1, 0, 0);
        x.races(0);
        x.steps(2);
        x.race(0, 4, 2, 0, 1);

        x = new Loom("RACES: an earlier access, though the same thread's first one is before it");
        x.body("WRITE 0, FORK 1, WRITE 0");
        x.body("READ 0, READ 0");
        x.start(0, 0);
        x.steps(0, 0, 1);
        x.races(0);
        x.steps(0, 1);
        x.race(0, 3, 0, 0, 1);
        x.race(1, 4, 1, 0, 0);
    }

    private static void racesOnce() {
        Loom x = new Loom("An access RACES, be it with one or with many");
        x.body("FORK 1, FORK 1, FORK 1, FORK 1, FORK 1, WRITE 0");
        x.body("READ 0");
        x.start(0, 0);
        x.stepsOf(0, 5);
        x.steps(1, 2, 3, 4, 5);
        x.races(0);
        x.steps(0);
        x.races(1);
        x.race(0, 10, 0, 0, 1);
        x.noRace(1);
    }

    private static void waitingIsNoStep() {
        Loom x = new Loom("A step in which a thread waited is none");
        x.body("FORK 1, FORK 2, SYNC 0, WRITE 1, END");
        x.body("SYNC 0, END");
        x.body("WRITE 1");
        x.start(0, 0);
        x.stepsOf(0, 3);
        for (int i = 0; i < 3; i++) {
            x.waits(1);
            x.stepsDone(3);
        }
        x.steps(0);
        x.waits(1);
        x.steps(2);
        x.stepsDone(5);
        x.race(0, 4, 2, 1, 1);
    }
}
