/** The promises of the document by their numbers, sentence by sentence: each has a test of its own. */
public final class LockLoomPromises {
    private static final int NONE = Loom.NONE;
    private static final int LOWEST = Loom.LOWEST;
    private static final int HIGHEST = Loom.HIGHEST;
    private static final int GOES_ON = Loom.GOES_ON;
    private static final int WAITS = Loom.WAITS;
    private static final int DONE = Loom.DONE;

    private static final int KINDS = 11;
    /** How many numbers a kind can have, from 0 on; 0 if any int will do. */
    private static final int[] LIMITS = {8, 8, 0, 0, 4, 0, 0, 0, 0, 8, 8};

    public static void main(String[] args) {
        newHasNoBodies();
        newHasNoRun();
        newCellsAreZero();
        newCellsHaveNoGuards();
        newTextIsEmpty();
        newObjectsAreApart();

        statementCounts();
        statementOfNoKind();
        statementOfNoNumber();
        statementOfAnyNumber();
        statementsFull();
        statementsDuringARun();

        bodyNumbers();
        bodyOfEmptyText();
        bodyLowestFourBits();
        bodyLeavesNoText();
        bodyWithEightThere();
        bodyOfWrongBlocks();
        bodiesKeepTheirTexts();

        guardTrue();
        guardFalse();
        guardAnew();

        checkFirst();
        checkSize();
        checkNone();
        checkAnew();

        soundAll();
        soundOfEachBody();
        soundOfNone();

        startBegins();
        startEndsAnother();
        startForgetsClocks();
        startForgetsDepthAndTimes();
        startFalse();
        startLeavesTheRest();

        stepOne();
        stepWaits();
        stepWithoutARun();
        stepOfNoThread();
        stepOfADoneThread();
        stepsFull();

        hasOfThreads();
        cellOfARun();
        holderOfALock();
        stateOfThreads();
        countOfARun();
        raceParts();
        racesAsTheyCame();
        racesBeyond64();
        stuckOrNot();
        stuckNotDone();
        Loom.end();
    }

    // Promise 1

    private static void newHasNoBodies() {
        Loom x = new Loom("1: No bodies");
        for (int b = 0; b < 8; b++) {
            x.check(b, NONE);
            x.noStart(b, 0);
        }
        x.sound(true);
        x.body("");
    }

    private static void newHasNoRun() {
        Loom x = new Loom("1: no run");
        for (int i = 0; i < 6; i++) {
            x.count(i, NONE);
            x.noStep(i);
            x.has(i, 0);
            x.state(i, NONE);
            x.noRace(i);
        }
        for (int l = 0; l < 4; l++) {
            x.holder(l, NONE);
        }
        x.stuck(false);
    }

    private static void newCellsAreZero() {
        Loom x = new Loom("1: cells are 0");
        for (int c = 0; c < 8; c++) {
            x.cell(c, 0);
        }
    }

    private static void newCellsHaveNoGuards() {
        for (int c = 0; c < 8; c++) {
            Loom x = new Loom("1: without guards");
            x.body("READ " + c);
            x.check(0, 1);
            x.body(15, "WRITE " + c);
            x.check(1, 0);
        }
    }

    private static void newTextIsEmpty() {
        Loom x = new Loom("1: The text has no statements");
        x.statement(3, 0, 1);
        x = new Loom("1: The text has no statements, and so has a body of it");
        x.body("");
        x.check(0, 0);
    }

    private static void newObjectsAreApart() {
        Loom x = new Loom("1: A new object, beside another one");
        x.guard(0, 1);
        x.body("WRITE 0, SYNC 0, WRITE 1, END");
        x.text("SET 1");
        x.start(0, 5);
        x.steps(0, 0);
        Loom y = new Loom("1: A new object");
        y.cell(0, 0);
        y.holder(0, NONE);
        y.check(0, NONE);
        y.count(0, NONE);
        y.statement(0, 0, 1);
        y.body("");
        y.check(0, 1);
        y.start(0, 7);
        y.steps(0);
        x.check(0, 0);
        x.cell(0, 5);
        x.holder(0, 0);
        x.has(0, 5);
        x.stepsDone(2);
        x.text("SET 2");
    }

    // Promise 2

    private static void statementCounts() {
        Loom x = new Loom("2: A statement more in the text: how many it has");
        for (int kind = 0; kind < KINDS; kind++) {
            x.statement(kind, 0, kind + 1);
        }
        x.statement(0, 0, 12);
    }

    private static void statementOfNoKind() {
        Loom x = new Loom("2: NONE, and it does not come, if there is no such kind");
        x.text("SET 1");
        for (int kind : Loom.outside(KINDS)) {
            x.statement(kind, 0, NONE);
            x.statement(kind, -1, NONE);
        }
        x.text("SET 2");
        x.body("");
        x.check(0, 2);
        x.path(0, 0, 1, 2);
    }

    private static void statementOfNoNumber() {
        for (int kind = 0; kind < KINDS; kind++) {
            if (LIMITS[kind] == 0) {
                continue;
            }
            Loom x = new Loom("2: NONE, and it does not come, if the number is none that it can have: kind " + kind);
            for (int number : Loom.outside(LIMITS[kind])) {
                x.statement(kind, number, NONE);
            }
            for (int number = 0; number < LIMITS[kind]; number++) {
                x.statement(kind, number, number + 1);
            }
            for (int number : Loom.outside(LIMITS[kind])) {
                x.statement(kind, number, NONE);
            }
            x.statement(3, 0, LIMITS[kind] + 1);
        }
        Loom x = new Loom("2: NONE, and it does not come, among others");
        x.text("SET 1");
        x.statement(0, 8, NONE);
        x.statement(9, -1, NONE);
        x.body("SET 2");
        x.check(0, 2);
        x.path(0, 0, 1, 2);
    }

    private static void statementOfAnyNumber() {
        for (int kind = 2; kind < 9; kind++) {
            if (LIMITS[kind] != 0) {
                continue;
            }
            Loom x = new Loom("2: of 5 to 8 it does not matter, and ADD, SET have any: kind " + kind);
            int size = 0;
            for (int number : Loom.outside(4)) {
                x.statement(kind, number, ++size);
            }
        }
        Loom x = new Loom("2: of 5 to 8 it does not matter, in a run neither");
        x.statement(6, 0, 1);
        x.statement(3, 0, 2);
        x.statement(7, 1, 3);
        x.statement(3, 4, 4);
        x.statement(5, -3, 5);
        x.statement(8, 0, 6);
        x.statement(2, -1, 7);
        x.statement(5, 99, 8);
        x.body("");
        x.path(0, 1, 1, 0, 0, 0);
        x.path(0, 0, 0, 4, 4, 4, 3, 3, 3, 2, 2, 2, 1, 1, 1, 0, 0, 0);
        // Nor where they would be numbers of a body, of a cell or of a lock.
        x.statement(6, 0, 1);
        x.statement(8, 0, 2);
        x.statement(3, 0, 3);
        x.statement(5, 0, 4);
        x.statement(7, 0, 5);
        x.statement(5, 0, 6);
        x.body("");
        x.path(1, 9, 9, 9, 0, 0, 0, 0);
        x.threads(1);
        x.cell(0, 0);
        x.holder(0, NONE);
    }

    private static void statementsFull() {
        Loom x = new Loom("2: NONE, and it does not come, if there are 64");
        x.text(63, "ADD 1");
        x.statement(2, 1, 64);
        for (int kind = 0; kind < KINDS; kind++) {
            x.statement(kind, 0, NONE);
        }
        x.statement(11, 0, NONE);
        x.body("");
        x.check(0, 64);
        x.text("ADD 1");
    }

    private static void statementsDuringARun() {
        Loom x = new Loom("2: A statement more in the text, whatever else is called");
        x.body("SET 1, SET 2");
        x.text("SET 3");
        x.start(0, 0);
        x.text("SET 4");
        x.steps(0);
        x.noStart(1, 0);
        x.guard(0, 0);
        x.check(0, 2);
        x.text("SET 5");
        x.steps(0);
        x.has(0, 2);
        x.body("");
        x.path(1, 0, 3, 4, 5);
    }

    // Promise 3

    private static void bodyNumbers() {
        Loom x = new Loom("3: The text is a body: its number");
        for (int b = 0; b < 8; b++) {
            x.check(b, NONE);
            x.text(b, "SET 1");
            x.body("");
            x.check(b, b);
        }
    }

    private static void bodyOfEmptyText() {
        Loom x = new Loom("3: The text is a body, though it has no statements");
        x.body(15, "");
        x.body(0, "");
        x.check(0, 0);
        x.check(1, 0);
        x.start(1, 6);
        x.state(0, DONE);
    }

    private static void bodyLowestFourBits() {
        int[] requires = {0, 1, 2, 4, 8, 15, 16, 17, 24, 32, 1 << 30, 240, -1, -2, -16, -9, LOWEST, LOWEST + 5, HIGHEST};
        for (int required : requires) {
            for (int l = 0; l < 4; l++) {
                Loom x = new Loom("3: a body, that requires the locks of the lowest four bits: " + required);
                boolean lock = (required >> l & 1) == 1;
                x.guard(0, l);
                x.body(required, "WRITE 0");
                x.check(0, lock ? 1 : 0);
                x.body(15 - (1 << l), "CALL 0");
                x.check(1, lock ? 0 : 1);
                x.body("FORK 0");
                x.check(2, required % 16 == 0 ? 1 : 0);
            }
        }
    }

    private static void bodyLeavesNoText() {
        Loom x = new Loom("3: The text (which has no statements then, whatever comes of it)");
        x.body("SET 1, SET 2");
        x.statement(5, 0, 1);
        x.noBody("");
        x.statement(6, 0, 1);
        x.noBody("SET 3");
        x.statement(3, 4, 1);
        x.body("");
        x.check(1, 1);
        x.path(1, 0, 4);
        x.body("");
        x.check(2, 0);
        x.text(64, "SET 1");
        x.body("");
        x.statement(3, 1, 1);
    }

    private static void bodyWithEightThere() {
        Loom x = new Loom("3: NONE, and there is none, if there are 8");
        for (int b = 0; b < 7; b++) {
            x.body("SET " + b);
        }
        x.body("CALL 7");
        int[] before = x.look();
        x.noBody("WRITE 0");
        x.statement(3, 9, 1);
        x.noBody("");
        x.noBody("");
        x.noBody("END");
        x.looksLike(before);
        x.check(8, NONE);
        x.noStart(8, 0);
        x.statement(3, 9, 1);
        x.path(6, 50, 6);
    }

    private static void bodyOfWrongBlocks() {
        String[] wrong = {
            "SYNC 0", "IF", "WHILE", "END", "ELSE", "IF, ELSE", "ELSE, END", "IF, ELSE, ELSE, END", "SYNC 0, ELSE, END",
            "WHILE, ELSE, END", "IF, SYNC 0, ELSE, END, END", "IF, END, ELSE, END", "SYNC 0, END, END", "SYNC 0, SYNC 0, END",
            "END, SYNC 0", "IF, IF, END",
        };
        for (String blocks : wrong) {
            Loom x = new Loom("3: NONE, and there is none, if blocks are not as they must be: " + blocks);
            x.body("SET 5");
            int[] before = x.look();
            x.noBody(blocks);
            x.looksLike(before);
            x.check(1, NONE);
            x.noStart(1, 0);
            // Nothing of it is left in the next one.
            x.body("SYNC 0, IF, WHILE, SET 0, END, ELSE, END, END");
            x.check(1, 8);
            x.path(1, 2, 2, 2, 2, 0, 0, 0, 0, 0);
        }
    }

    private static void bodiesKeepTheirTexts() {
        Loom x = new Loom("3: The text is a body, and stays it");
        for (int b = 0; b < 8; b++) {
            x.body(b, "SET " + (b + 10) + ", ADD " + b);
        }
        for (int b = 0; b < 8; b++) {
            x.path(b, 0, b + 10, 2 * b + 10);
        }
    }

    // Promise 4

    private static void guardTrue() {
        for (int cell = 0; cell < 8; cell++) {
            Loom x = new Loom("4: A cell's guard is a lock, or none (-1): true");
            x.body("READ " + cell);
            for (int l = 0; l < 4; l++) {
                x.body(1 << l, "WRITE " + cell);
            }
            for (int lock = -1; lock < 4; lock++) {
                x.guard(cell, lock);
                x.check(0, lock == NONE ? 1 : 0);
                for (int l = 0; l < 4; l++) {
                    x.check(1 + l, lock == l ? 1 : 0);
                }
            }
        }
    }

    private static void guardFalse() {
        Loom x = new Loom("4: false if there is no such cell");
        for (int c = 0; c < 8; c++) {
            x.body("READ " + c);
        }
        int[] before = x.look();
        for (int cell : Loom.outside(8)) {
            x.noGuard(cell, 0);
            x.noGuard(cell, 3);
            x.noGuard(cell, -1);
            x.noGuard(cell, 4);
        }
        x.looksLike(before);

        x = new Loom("4: false if there is no such lock");
        x.body(4, "WRITE 7");
        x.body("READ 0");
        x.guard(7, 2);
        before = x.look();
        for (int lock : Loom.outside(4)) {
            if (lock != NONE) {
                x.noGuard(7, lock);
                x.noGuard(0, lock);
            }
        }
        x.looksLike(before);
        x.check(0, 1);
        x.check(1, 1);
    }

    private static void guardAnew() {
        Loom x = new Loom("4: A cell's guard is a lock: the last one");
        x.body(2, "WRITE 3");
        x.guard(3, 1);
        x.check(0, 1);
        x.guard(3, 0);
        x.check(0, 0);
        x.guard(4, 1);
        x.check(0, 0);
        x.guard(3, 1);
        x.guard(3, 1);
        x.check(0, 1);
        x.guard(3, NONE);
        x.check(0, 0);
        // A run neither asks for guards nor changes them.
        x.guard(3, 1);
        x.start(0, 6);
        x.guard(3, 2);
        x.steps(0);
        x.cell(3, 6);
        x.check(0, 0);
        x.start(0, 6);
        x.check(0, 0);
    }

    // Promise 5

    private static void checkFirst() {
        Loom x = new Loom("5: The first statement of a body, from 0 on, that is not right");
        x.body("READ 0, READ 1, WRITE 2, WRITE 3");
        x.check(0, 2);
        x.guard(1, 0);
        x.check(0, 1);
        x.guard(0, 0);
        x.check(0, 0);
        x.text(63, "SET 0");
        x.body("WRITE 2");
        x.check(1, 63);
    }

    private static void checkSize() {
        Loom x = new Loom("5: its size if all are");
        for (int size = 0; size < 8; size++) {
            x.text(size, "SET 0");
            x.body("");
            x.check(size, size);
        }
        x = new Loom("5: its size if all are: 64");
        x.text(64, "READ 0");
        x.body("");
        x.check(0, 64);
    }

    private static void checkNone() {
        Loom x = new Loom("5: NONE if there is no such body");
        for (int b = 0; b <= 8; b++) {
            for (int body : Loom.outside(b)) {
                x.check(body, NONE);
            }
            if (b < 8) {
                x.body("SET 1");
            }
        }
        x.check(7, 1);
        // A text is no body yet.
        x = new Loom("5: NONE if there is no such body, but a text");
        x.text("SET 1");
        x.check(0, NONE);
    }

    private static void checkAnew() {
        Loom x = new Loom("5: what is right by the guards and bodies that there are");
        x.body("CALL 1, FORK 2, SYNC 3, WRITE 5, END");
        x.check(0, 0);
        x.body("");
        x.check(0, 1);
        x.body("");
        x.check(0, 3);
        x.guard(5, 3);
        x.check(0, 5);
        x.guard(5, 2);
        x.check(0, 3);
        x.start(0, 0);
        x.steps(0);
        x.check(0, 3);
    }

    // Promise 6

    private static void soundAll() {
        Loom x = new Loom("6: Whether all statements of all bodies are right");
        x.body("READ 0");
        x.sound(true);
        x.guard(0, 3);
        x.sound(false);
        x.body(8, "WRITE 0");
        x.sound(false);
        x.guard(0, NONE);
        x.sound(false);
        x = new Loom("6: Whether all statements of all bodies are right, by bodies that come later");
        x.body("SYNC 3, CALL 1, END");
        x.sound(false);
        x.body(8, "WRITE 0, SET 1");
        x.sound(false);
        x.guard(0, 3);
        x.sound(true);
        x.body("");
        x.sound(true);
        x.body("FORK 1");
        x.sound(false);
    }

    private static void soundOfEachBody() {
        for (int wrong = 0; wrong < 8; wrong++) {
            Loom x = new Loom("6: all statements of all bodies, of body " + wrong + " too");
            for (int b = 0; b < 8; b++) {
                x.body("SET 1, READ " + b);
                x.sound(true);
            }
            x.guard(wrong, 0);
            x.sound(false);
            x.guard(wrong, NONE);
            x.sound(true);
        }
        Loom x = new Loom("6: all statements of all bodies, the 64th too");
        x.text(63, "SET 1");
        x.body("READ 0");
        x.sound(true);
        x.guard(0, 0);
        x.sound(false);
    }

    private static void soundOfNone() {
        Loom x = new Loom("6: all statements of all bodies, where there are none");
        x.sound(true);
        x.text("WRITE 0");
        x.sound(true);
        x.noBody("END");
        x.sound(true);
        x.body("");
        x.sound(true);
        x.body(15, "");
        x.sound(true);
    }

    // Promise 7

    private static void startBegins() {
        Loom x = new Loom("7: thread 0 begins a body with a number: true");
        x.body(15, "ADD 1, ADD 2");
        x.body("ADD 5");
        for (int has : new int[] {0, 3, -1, LOWEST, HIGHEST - 3}) {
            for (int b = 0; b < 2; b++) {
                x.start(b, has);
                x.has(0, has);
                x.threads(1);
                x.stepsDone(0);
                x.races(0);
                x.state(0, GOES_ON);
                x.state(1, NONE);
                x.steps(0);
                x.has(0, has + (b == 0 ? 1 : 5));
            }
        }
        // What a body requires is not taken by a run.
        x.start(0, 0);
        for (int l = 0; l < 4; l++) {
            x.holder(l, NONE);
        }
    }

    private static void startEndsAnother() {
        Loom x = new Loom("7: A run begins (another one ends): cells are 0, locks free");
        for (int c = 0; c < 8; c++) {
            x.text("WRITE " + c);
        }
        x.body("FORK 1, SYNC 0, SYNC 1, SYNC 2, SYNC 3, FORK 1, END, END, END, END");
        x.body("WRITE 0, WRITE 7");
        x.start(0, 9);
        x.stepsOf(0, 14);
        x.steps(1, 2, 1);
        x.threads(3);
        x.races(1);
        x.cell(7, 9);
        x.holder(3, 0);
        x.start(0, 4);
        for (int c = 0; c < 8; c++) {
            x.cell(c, 0);
        }
        for (int l = 0; l < 4; l++) {
            x.holder(l, NONE);
        }
        x.threads(1);
        x.stepsDone(0);
        x.races(0);
        x.noRace(0);
        x.has(0, 4);
        for (int t = 1; t < 3; t++) {
            x.has(t, 0);
            x.state(t, NONE);
            x.noStep(t);
        }
        x.steps(0);
        x.cell(0, 4);
        x.cell(1, 0);
        // A run of threads that are done, and one that is stuck, end as well.
        x.body("");
        x.start(2, 1);
        x.state(0, DONE);
        x.start(1, 1);
        x.state(0, GOES_ON);
    }

    private static void startForgetsClocks() {
        Loom x = new Loom("7: (another one ends): its accesses do not race with those of the next one");
        x.body("WRITE 0");
        x.body("FORK 0, FORK 0");
        x.start(1, 1);
        x.steps(0, 0, 1, 2);
        x.races(1);
        x.start(0, 1);
        x.steps(0);
        x.races(0);
        x.start(1, 1);
        x.steps(0, 0, 2, 1);
        x.races(1);
        x.race(0, 3, 1, 0, 1);

        x = new Loom("7: (another one ends): its reads do not race with the next one's");
        x.body("READ 0");
        x.body("FORK 0, FORK 0");
        x.body("WRITE 0");
        x.start(1, 1);
        x.steps(0, 0, 1, 2);
        x.start(2, 1);
        x.steps(0);
        x.races(0);

        x = new Loom("7: (another one ends): what was before by it is not before in the next one");
        x.body("FORK 1, SYNC 0, END, WRITE 0, SYNC 0, END");
        x.body("WRITE 0, SYNC 0, END");
        x.start(0, 1);
        x.steps(0, 1, 1, 1, 0, 0, 0, 0, 0);
        x.races(0);
        x.start(0, 1);
        x.steps(0, 0, 0, 1, 0);
        x.races(1);
        x.race(0, 4, 0, 0, 1);

        x = new Loom("7: (another one ends): other threads than thread 0 know nothing of it either");
        x.body("FORK 1, FORK 2, FORK 2, FORK 2, FORK 2, SET 0, SET 0");
        x.body("SYNC 0, END, WRITE 0");
        x.body("WRITE 0, SYNC 0, END");
        for (int writer = 2; writer < 6; writer++) {
            x.start(0, 1);
            x.stepsOf(0, 7);
            x.stepsOf(writer, 3);
            x.stepsOf(1, 3);
            x.races(0);
            x.start(0, 1);
            x.stepsOf(0, 5);
            x.steps(1, 1, writer, 1);
            x.races(1);
            x.race(0, 8, 1, 0, 1);
        }

        x = new Loom("7: (another one ends): thread 0 knows of no other one's steps");
        x.body("FORK 1, SYNC 0, END, WRITE 0");
        x.body("SYNC 0, WRITE 0, END");
        x.start(0, 1);
        x.steps(0, 1, 1, 1, 0, 0, 0);
        x.races(0);
        x.body("FORK 3, WRITE 0");
        x.body("WRITE 0");
        x.start(2, 1);
        x.steps(0, 1, 0);
        x.race(0, 2, 0, 0, 1);
    }

    private static void startForgetsDepthAndTimes() {
        Loom x = new Loom("7: (another one ends): locks free, however often they were taken");
        x.body("SYNC 0, SYNC 0, SYNC 0, END, END, END");
        x.body("SYNC 0, END");
        x.start(0, 0);
        x.stepsOf(0, 3);
        x.start(1, 0);
        x.steps(0, 0);
        x.holder(0, NONE);
        x.state(0, DONE);

        x = new Loom("7: (another one ends): thread 0 begins a body, within no other one");
        x.body("ADD 1, CALL 0, ADD 10");
        x.start(0, 0);
        x.stepsOf(0, 16);
        x.start(0, 0);
        x.stepsOf(0, 16);
        x.has(0, 8);
        x.stepsOf(0, 8);
        x.has(0, 88);
        x.state(0, DONE);

        x = new Loom("7: (another one ends): threads made anew begin at the beginning");
        x.body("FORK 1");
        x.body("ADD 1, CALL 2, ADD 2");
        x.body("ADD 4, ADD 8");
        x.start(0, 0);
        x.steps(0, 1, 1, 1);
        x.start(0, 100);
        x.steps(0);
        x.has(1, 100);
        x.stepsOf(1, 5);
        x.has(1, 115);
        x.state(1, DONE);
    }

    private static void startFalse() {
        Loom x = new Loom("7: false, and nothing happens, if there is no such body");
        x.noStart(0, 1);
        x.body("FORK 0, SYNC 1, WRITE 4, SET 7, END");
        for (int body : Loom.outside(1)) {
            x.noStart(body, 1);
            x.count(0, NONE);
        }
        x.start(0, 3);
        x.steps(0, 0, 0, 1);
        x.waits(1);
        x.steps(0, 0, 2, 2, 2);
        int[] before = x.look();
        for (int body : Loom.outside(1)) {
            x.noStart(body, 9);
        }
        x.looksLike(before);
        x.steps(2, 2);
        x.state(2, DONE);
        x.noBody("END");
        x.noStart(1, 0);
    }

    private static void startLeavesTheRest() {
        Loom x = new Loom("7: A run begins: bodies, guards and the text stay");
        x.guard(0, 2);
        x.body("READ 0");
        x.body(4, "WRITE 0");
        x.text("SET 8");
        x.start(1, 0);
        x.check(0, 0);
        x.check(1, 1);
        x.check(2, NONE);
        x.statement(3, 9, 2);
        x.body("");
        x.path(2, 0, 8, 9);
    }

    // Promise 8

    private static void stepOne() {
        Loom x = new Loom("8: A step of a thread: 1");
        x.body("FORK 1, ADD 1, ADD 2");
        x.body("ADD 10, ADD 20");
        x.start(0, 0);
        x.steps(0);
        x.steps(1);
        x.has(0, 0);
        x.has(1, 10);
        x.steps(0);
        x.has(0, 1);
        x.has(1, 10);
        x.stepsDone(3);
        x.steps(1, 0);
        x.has(0, 3);
        x.has(1, 30);
        x.stepsDone(5);
    }

    private static void stepWaits() {
        Loom x = new Loom("8: 0 if it waits");
        x.body("FORK 1, SYNC 0, SYNC 1, END, END");
        x.body("SYNC 1, SYNC 0, END, END");
        x.start(0, 0);
        x.steps(0, 0, 1);
        int[] before = x.look();
        for (int i = 0; i < 5; i++) {
            x.waits(0);
            x.waits(1);
        }
        x.looksLike(before);
        x.stepsDone(3);
    }

    private static void stepWithoutARun() {
        Loom x = new Loom("8: NONE, and nothing happens, if there is no run");
        x.body("SET 1");
        x.noStep(0);
        x.noStart(1, 0);
        for (int thread : Loom.outside(1)) {
            x.noStep(thread);
        }
        x.noStep(0);
        x.count(1, NONE);
        x.start(0, 5);
        x.has(0, 5);
        x.stepsDone(0);
    }

    private static void stepOfNoThread() {
        Loom x = new Loom("8: NONE, and nothing happens, if there is no such thread");
        x.body("FORK 1, FORK 1, FORK 1, FORK 1, FORK 1, SET 9");
        x.body("SET 4");
        x.start(0, 5);
        for (int threads = 1; threads <= 6; threads++) {
            for (int thread : Loom.outside(threads)) {
                x.noStep(thread);
            }
            x.stepsDone(threads - 1);
            x.threads(threads);
            x.has(0, 5);
            x.steps(0);
        }
        x.has(0, 9);
    }

    private static void stepOfADoneThread() {
        Loom x = new Loom("8: NONE, and nothing happens, if it is done");
        x.body("FORK 1, SET 4, WRITE 0");
        x.body("ADD 1");
        x.start(0, 5);
        x.steps(0, 1);
        int[] before = x.look();
        x.noStep(1);
        x.noStep(1);
        x.looksLike(before);
        x.steps(0, 0);
        before = x.look();
        x.noStep(0);
        x.noStep(1);
        x.looksLike(before);
        x.stepsDone(4);
    }

    // The document names this edge, though the 512 calls that it speaks of do not reach it.
    private static void stepsFull() {
        Loom x = new Loom("8: NONE, and nothing happens, if 4,000 steps (without waiting) were done").withoutLimit();
        x.body("FORK 1, SYNC 0, WHILE, ADD 1, END, END");
        x.body("SYNC 0, END");
        x.start(0, 1);
        x.steps(0, 0);
        for (int i = 2; i < 3999; i++) {
            if (i % 500 == 0) {
                x.waits(1);
            }
            x.steps(0);
        }
        x.stepsDone(3999);
        x.waits(1);
        x.steps(0);
        x.stepsDone(4000);
        int[] before = x.look();
        x.noStep(0);
        x.noStep(1);
        x.noStep(2);
        x.looksLike(before);
        // Another run has its own 4,000.
        x.start(1, 0);
        x.steps(0, 0);
        x.stepsDone(2);
    }

    // Promises 9 to 12

    private static void hasOfThreads() {
        Loom x = new Loom("9: What a thread has; 0 if there is none such");
        x.has(0, 0);
        x.body("FORK 1, FORK 1, FORK 1, FORK 1, FORK 1");
        x.body("ADD 4");
        x.has(0, 0);
        x.start(0, 5);
        for (int threads = 1; threads <= 6; threads++) {
            for (int thread : Loom.outside(threads)) {
                x.has(thread, 0);
            }
            for (int t = 0; t < threads; t++) {
                x.has(t, 5);
            }
            if (threads < 6) {
                x.steps(0);
            }
        }
        x.steps(5, 2);
        x.has(5, 9);
        x.has(2, 9);
        x.has(1, 5);
        x.state(0, DONE);
        x.has(0, 5);
    }

    private static void cellOfARun() {
        Loom x = new Loom("10: What is in a cell; 0 if there is none such");
        for (int c = 0; c < 8; c++) {
            x.text("WRITE " + c);
        }
        x.body("");
        x.start(0, -3);
        for (int c = 0; c < 8; c++) {
            x.cell(c, 0);
            x.steps(0);
            x.cell(c, -3);
        }
        for (int c : Loom.outside(8)) {
            x.cell(c, 0);
        }
        x = new Loom("10: 0 if there is no run");
        x.body("WRITE 0");
        for (int c = -1; c < 9; c++) {
            x.cell(c, 0);
        }
        x.noStart(1, 7);
        x.cell(0, 0);
    }

    private static void holderOfALock() {
        Loom x = new Loom("11: The thread that has a lock; NONE if it is free, or there is none such");
        for (int l = -1; l < 5; l++) {
            x.holder(l, NONE);
        }
        x.body("FORK 1, FORK 1, FORK 1, FORK 1, FORK 1, SYNC 3, END");
        x.body("SYNC 0, SYNC 0, END, END");
        x.start(0, 0);
        x.holder(0, NONE);
        x.holder(3, NONE);
        x.stepsOf(0, 6);
        x.holder(3, 0);
        for (int t = 5; t > 0; t--) {
            x.holder(0, NONE);
            for (int i = 0; i < 3; i++) {
                x.steps(t);
                x.holder(0, t);
            }
            x.steps(t);
        }
        x.holder(0, NONE);
        x.holder(1, NONE);
        x.holder(2, NONE);
        for (int lock : Loom.outside(4)) {
            x.holder(lock, NONE);
        }
        x.steps(0);
        x.holder(3, NONE);
    }

    private static void stateOfThreads() {
        Loom x = new Loom("12: 0 it can go on, 1 it would wait now, 2 it is done");
        x.body("FORK 1, SYNC 2, SYNC 2, END, END");
        x.body("SYNC 2, END, SET 1");
        x.start(0, 0);
        x.state(0, GOES_ON);
        x.steps(0);
        x.state(1, GOES_ON);
        x.steps(0);
        x.state(1, WAITS);
        x.state(0, GOES_ON);
        x.steps(0);
        x.state(1, WAITS);
        x.waits(1);
        x.state(1, WAITS);
        x.steps(0);
        x.state(1, WAITS);
        x.state(0, GOES_ON);
        x.steps(0);
        x.state(1, GOES_ON);
        x.state(0, DONE);
        x.steps(1);
        x.state(1, GOES_ON);
        x.steps(1);
        x.state(1, GOES_ON);
        x.steps(1);
        x.state(1, DONE);
        x.stepsDone(8);

        x = new Loom("12: 1 it would wait now, by the lock of its own SYNC, and no other kind's");
        x.body("FORK 1, FORK 2, FORK 3, SYNC 1, END");
        x.body("SYNC 0, END");
        x.body("READ 1, WRITE 1, ADD 1, SET 1, IF, ELSE, END");
        x.body("CALL 1, WHILE, END");
        x.start(0, 0);
        x.stepsOf(0, 4);
        x.state(1, GOES_ON);
        for (int i = 0; i < 6; i++) {
            x.state(2, GOES_ON);
            x.steps(2);
        }
        x.state(2, DONE);
        x.state(3, GOES_ON);
        x.steps(1);
        x.steps(3);
        x.state(3, WAITS);

        x = new Loom("12: NONE if there is none such");
        x.state(0, NONE);
        x.body("FORK 1, FORK 1, FORK 1, FORK 1, FORK 1");
        x.body("");
        x.state(0, NONE);
        x.start(0, 0);
        for (int threads = 1; threads <= 6; threads++) {
            for (int thread : Loom.outside(threads)) {
                x.state(thread, NONE);
            }
            if (threads < 6) {
                x.state(0, GOES_ON);
                x.steps(0);
            }
        }
        x.state(0, DONE);
        x.state(5, DONE);
    }

    // Promise 13

    private static void countOfARun() {
        Loom x = new Loom("13: How many threads there are (what 0), steps were done (1), accesses raced (2)");
        x.body("FORK 1, WRITE 0, SET 1, FORK 1, FORK 7");
        x.body("SYNC 0, WRITE 0, END");
        x.start(0, 0);
        int[] order = {0, 0, 1, 1, 0, 0, 1, 2, 2, 0};
        int[] threads = {2, 2, 2, 2, 2, 3, 3, 3, 3, 3};
        int[] races = {0, 0, 0, 1, 1, 1, 1, 1, 1, 1};
        for (int i = 0; i < order.length; i++) {
            x.steps(order[i]);
            x.count(0, threads[i]);
            x.count(1, i + 1);
            x.count(2, races[i]);
        }
        for (int what : Loom.outside(3)) {
            x.count(what, NONE);
        }
        x = new Loom("13: NONE without a run");
        x.body("SET 1");
        for (int what = -1; what < 4; what++) {
            x.count(what, NONE);
        }
        x.noStart(1, 0);
        x.count(0, NONE);
        x.start(0, 0);
        x.count(0, 1);
        x.count(1, 0);
        x.count(2, 0);
    }

    // Promise 14

    private static void raceParts() {
        Loom x = new Loom("14: what 0: which step it was, from 0 on, 1: the thread, 2: the cell, 3: 1 if it was a WRITE, else 0");
        x.noRace(0);
        x.body("FORK 1, READ 6, WRITE 6, READ 6, WRITE 0");
        x.body("READ 6, WRITE 6, READ 0");
        x.noRace(0);
        x.start(0, 0);
        x.steps(0, 0, 1);
        x.noRace(0);
        x.steps(0, 1, 0, 0, 1);
        x.races(4);
        x.race(0, 3, 0, 6, 1);
        x.race(1, 4, 1, 6, 1);
        x.race(2, 5, 0, 6, 0);
        x.race(3, 7, 1, 0, 0);
        for (int i = 0; i < 4; i++) {
            for (int what : Loom.outside(4)) {
                x.racePart(i, what, NONE);
            }
        }
        for (int i : Loom.outside(4)) {
            for (int what = -1; what <= 4; what++) {
                x.racePart(i, what, NONE);
            }
        }
        x.race(3, 7, 1, 0, 0);
    }

    private static void racesAsTheyCame() {
        Loom x = new Loom("14: Of race i, from 0 on, as they came");
        x.body("FORK 1, WRITE 0, WRITE 1, WRITE 2, WRITE 3");
        x.body("READ 3, READ 1, WRITE 2, WRITE 0");
        x.start(0, 0);
        x.stepsOf(0, 5);
        x.stepsOf(1, 4);
        x.race(0, 5, 1, 3, 0);
        x.race(1, 6, 1, 1, 0);
        x.race(2, 7, 1, 2, 1);
        x.race(3, 8, 1, 0, 1);
        x.noRace(4);
        // Of this run alone.
        x.start(0, 0);
        x.noRace(0);
        x.steps(0, 1, 0, 0, 1, 0, 0);
        x.races(2);
        x.race(0, 4, 1, 1, 0);
        x.race(1, 6, 0, 3, 1);
        x.noRace(2);
    }

    private static void racesBeyond64() {
        Loom x = new Loom("14: (the first 64 alone)");
        x.body("FORK 1, WHILE, WRITE 7, END");
        x.body("WHILE, READ 7, END");
        x.start(0, 1);
        x.steps(0, 0, 1, 0);
        // From here on each thread's access races with the other's last one.
        int step = 4;
        for (int i = 0; i < 67; i++) {
            int thread = i % 2 == 0 ? 1 : 0;
            x.races(i);
            if (i >= 62) {
                x.racePart(i, 0, NONE);
            }
            x.steps(thread);
            if (i < 2 || i == 62 || i == 63) {
                x.race(i, step, thread, 7, thread == 0 ? 1 : 0);
            }
            // END and WHILE, before its next access.
            x.steps(1 - thread, 1 - thread);
            step += 3;
        }
        x.races(67);
        for (int i = 64; i < 68; i++) {
            x.noRace(i);
        }
        x.race(0, 4, 1, 7, 0);
        x.race(63, 4 + 3 * 63, 0, 7, 1);
    }

    // Promise 15

    private static void stuckOrNot() {
        Loom x = new Loom("15: Whether no thread can go on");
        x.stuck(false);
        x.body("FORK 1, SYNC 0, SYNC 1, END, END");
        x.body("SYNC 1, SYNC 0, END, END");
        x.stuck(false);
        x.start(0, 0);
        x.stuck(false);
        x.steps(0, 0);
        x.stuck(false);
        x.steps(1);
        x.stuck(true);
        x.state(0, WAITS);
        x.state(1, WAITS);
        x.waits(0);
        x.waits(1);
        x.stuck(true);
        // Where one waits and one goes on, no.
        x.start(0, 0);
        x.stuck(false);
        x.steps(0, 0, 0);
        x.state(1, WAITS);
        x.stuck(false);

        x = new Loom("15: Whether no thread can go on, the last one neither");
        x.body("FORK 1, FORK 2, FORK 2, FORK 2, FORK 3, SYNC 0, SYNC 1, END, END");
        x.body("SYNC 1, SYNC 0, END, END");
        x.body("SYNC 0, END");
        x.body("SET 1, SYNC 1, END");
        x.start(0, 0);
        x.stepsOf(0, 6);
        x.steps(1);
        x.stuck(false);
        x.steps(5);
        x.stuck(true);
    }

    private static void stuckNotDone() {
        Loom x = new Loom("15: and not all are done");
        x.body("FORK 1, SYNC 0, END");
        x.body("SYNC 0, END");
        x.start(0, 0);
        x.steps(0, 0);
        x.state(1, WAITS);
        x.stuck(false);
        x.steps(0);
        x.state(0, DONE);
        x.stuck(false);
        x.steps(1, 1);
        x.state(1, DONE);
        x.stuck(false);
        x.body("");
        x.start(2, 0);
        x.state(0, DONE);
        x.stuck(false);

        x = new Loom("15: and not all are done, though some are");
        x.body("FORK 2, FORK 1, SET 1");
        x.body("FORK 3, SYNC 0, SYNC 1, END, END");
        x.body("");
        x.body("SYNC 1, SYNC 0, END, END");
        x.start(0, 0);
        x.steps(0, 0, 2, 2, 3);
        x.stuck(false);
        x.steps(0);
        x.state(0, DONE);
        x.state(1, DONE);
        x.state(2, WAITS);
        x.state(3, WAITS);
        x.stuck(true);
    }
}
