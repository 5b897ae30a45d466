import java.util.Arrays;

/**
 * Threads over shared cells and locks: bodies of statements are checked, whether each cell is met
 * with its lock held alone; then they are run, whoever is named doing one step, and accesses that
 * race with others are found.
 */
public final class LockLoom {
    /** Nothing there. */
    public static final int NONE = -1;

    private static final int CELLS = 8;
    private static final int LOCKS = 4;
    private static final int ALL_LOCKS = 15;
    private static final int BODIES = 8;
    private static final int STATEMENTS = 64;
    private static final int THREADS = 6;
    private static final int DEPTH = 8;
    private static final int STEPS = 4000;
    private static final int RACES = 64;
    private static final int RACE_PARTS = 4;

    private static final int READ = 0;
    private static final int WRITE = 1;
    private static final int ADD = 2;
    private static final int SET = 3;
    private static final int SYNC = 4;
    private static final int END = 5;
    private static final int IF = 6;
    private static final int ELSE = 7;
    private static final int WHILE = 8;
    private static final int FORK = 9;
    private static final int CALL = 10;
    private static final int KINDS = 11;

    private static final int GOES_ON = 0;
    private static final int WAITS = 1;
    private static final int DONE = 2;

    private final Shelf shelf;
    private final Run run;

    public LockLoom() {
        shelf = new Shelf();
        run = new Run(shelf);
    }

    public int statement(int kind, int number) {
        return shelf.addStatement(kind, number);
    }

    public int body(int requires) {
        return shelf.closeText(requires & ALL_LOCKS);
    }

    public boolean guard(int cell, int lock) {
        return shelf.setGuard(cell, lock);
    }

    public int check(int body) {
        return shelf.contains(body) ? shelf.firstWrong(body) : NONE;
    }

    public boolean sound() {
        return shelf.allRight();
    }

    public boolean start(int body, int has) {
        if (!shelf.contains(body)) {
            return false;
        }
        run.begin(body, has);
        return true;
    }

    public int step(int thread) {
        return run.advance(thread);
    }

    public int has(int thread) {
        return run.valueOf(thread);
    }

    public int cell(int c) {
        return run.contentOf(c);
    }

    public int holder(int lock) {
        return run.holderOf(lock);
    }

    public int state(int thread) {
        return run.stateOf(thread);
    }

    public int count(int what) {
        return run.countOf(what);
    }

    public int race(int i, int what) {
        return run.racePart(i, what);
    }

    public boolean stuck() {
        return run.isStuck();
    }

    private static boolean isBelow(int number, int limit) {
        return number >= 0 && number < limit;
    }

    /** A row of statements: the text while it is written, and a body once its blocks are joined. */
    private static final class Body {
        private final int[] kinds = new int[STATEMENTS];
        private final int[] numbers = new int[STATEMENTS];
        // IF: its ELSE, or else its END. ELSE, SYNC, WHILE: their END. END: what points to it.
        private final int[] partners = new int[STATEMENTS];
        // The locks that are held where a statement stands, a bit each.
        private final int[] held = new int[STATEMENTS];
        private int size;
        private int requires;

        void clear() {
            size = 0;
        }

        int append(int kind, int number) {
            if (size >= STATEMENTS) {
                return NONE;
            }
            kinds[size] = kind;
            numbers[size] = number;
            size++;
            return size;
        }

        /** Whether the blocks are as they must be; then partners and held locks are known. */
        boolean joinBlocks(int required) {
            requires = required;
            int locks = required;
            // The innermost open block. Until it ends, its partner is the open block around it:
            // so no stack is needed.
            int open = NONE;
            for (int i = 0; i < size; i++) {
                held[i] = locks;
                switch (kinds[i]) {
                    case SYNC:
                        locks |= 1 << numbers[i];
                        partners[i] = open;
                        open = i;
                        break;
                    case IF:
                    case WHILE:
                        partners[i] = open;
                        open = i;
                        break;
                    case ELSE:
                        // The ELSE takes the place of its IF, so that a second one finds no IF.
                        if (open == NONE || kinds[open] != IF) {
                            return false;
                        }
                        partners[i] = partners[open];
                        partners[open] = i;
                        open = i;
                        break;
                    case END:
                        if (open == NONE) {
                            return false;
                        }
                        // Not a bit less: a SYNC further out may hold the same lock.
                        locks = held[open];
                        open = closeBlock(open, i);
                        break;
                    default:
                        break;
                }
            }
            return open == NONE;
        }

        private int closeBlock(int open, int end) {
            int outer = partners[open];
            partners[open] = end;
            partners[end] = open;
            return outer;
        }
    }

    /** The text, the bodies made of it and the guards: all that is known without a run. */
    private static final class Shelf {
        private final Body[] bodies = new Body[BODIES];
        private final int[] guards = new int[CELLS];
        private Body text = new Body();
        private int bodyCount;

        Shelf() {
            for (int i = 0; i < BODIES; i++) {
                bodies[i] = new Body();
            }
            Arrays.fill(guards, NONE);
        }

        boolean contains(int body) {
            return isBelow(body, bodyCount);
        }

        int addStatement(int kind, int number) {
            return fits(kind, number) ? text.append(kind, number) : NONE;
        }

        private static boolean fits(int kind, int number) {
            switch (kind) {
                case READ:
                case WRITE:
                    return isBelow(number, CELLS);
                case SYNC:
                    return isBelow(number, LOCKS);
                case FORK:
                case CALL:
                    return isBelow(number, BODIES);
                default:
                    return isBelow(kind, KINDS);
            }
        }

        int closeText(int requires) {
            if (bodyCount >= BODIES || !text.joinBlocks(requires)) {
                text.clear();
                return NONE;
            }
            // The rows change places, so that none is made or copied.
            Body unused = bodies[bodyCount];
            bodies[bodyCount] = text;
            text = unused;
            bodyCount++;
            return bodyCount - 1;
        }

        boolean setGuard(int cell, int lock) {
            if (!isBelow(cell, CELLS) || (lock != NONE && !isBelow(lock, LOCKS))) {
                return false;
            }
            guards[cell] = lock;
            return true;
        }

        int firstWrong(int body) {
            Body row = bodies[body];
            for (int i = 0; i < row.size; i++) {
                if (!isRight(row, i)) {
                    return i;
                }
            }
            return row.size;
        }

        boolean allRight() {
            for (int b = 0; b < bodyCount; b++) {
                if (firstWrong(b) < bodies[b].size) {
                    return false;
                }
            }
            return true;
        }

        private boolean isRight(Body row, int i) {
            int number = row.numbers[i];
            int held = row.held[i];
            switch (row.kinds[i]) {
                case READ:
                    return guards[number] == NONE || guardHeld(number, held);
                case WRITE:
                    return guards[number] != NONE && guardHeld(number, held);
                case FORK:
                    return contains(number) && bodies[number].requires == 0;
                case CALL:
                    return contains(number) && (bodies[number].requires & ~held) == 0;
                default:
                    return true;
            }
        }

        private boolean guardHeld(int cell, int held) {
            return (held & (1 << guards[cell])) != 0;
        }
    }

    /**
     * A thread of a run. Its clock tells for each thread the latest step (from 1 on, 0 is none)
     * that is before what this one does next: of one thread, all earlier steps are before too.
     */
    private static final class Strand {
        private final int number;
        private final int[] bodies = new int[DEPTH];
        private final int[] places = new int[DEPTH];
        private final int[] clock = new int[THREADS];
        private int depth;
        private int value;

        Strand(int number) {
            this.number = number;
        }

        void begin(int body, int has) {
            value = has;
            depth = 0;
            enter(body);
        }

        void enter(int body) {
            if (depth < DEPTH) {
                bodies[depth] = body;
                places[depth] = 0;
                depth++;
            }
        }

        boolean isDone() {
            return depth == 0;
        }

        void moveTo(int place) {
            places[depth - 1] = place;
        }

        void learn(int[] other) {
            for (int t = 0; t < THREADS; t++) {
                clock[t] = Math.max(clock[t], other[t]);
            }
        }
    }

    private static final class Lock {
        // What was before the END that last made it free.
        private final int[] clock = new int[THREADS];
        private int holder = NONE;
        private int times;

        void clear() {
            Arrays.fill(clock, 0);
            holder = NONE;
            times = 0;
        }

        boolean refuses(Strand strand) {
            return holder != NONE && holder != strand.number;
        }

        void take(Strand strand) {
            if (holder == NONE) {
                strand.learn(clock);
                holder = strand.number;
            }
            times++;
        }

        void release(Strand strand) {
            times--;
            if (times == 0) {
                holder = NONE;
                // A copy is enough: what the lock knew, the strand learned as it took it.
                System.arraycopy(strand.clock, 0, clock, 0, THREADS);
            }
        }
    }

    /** A cell, and each thread's last READ and WRITE of it (steps from 1 on, 0 is none). */
    private static final class Cell {
        private final int[] reads = new int[THREADS];
        private final int[] writes = new int[THREADS];
        private int value;

        void clear() {
            Arrays.fill(reads, 0);
            Arrays.fill(writes, 0);
            value = 0;
        }

        // A thread's own accesses are never later than its clock, so they need no test. The last
        // access of each thread is enough: if it is before, those that preceded it are.
        boolean races(int[] clock, boolean write) {
            for (int t = 0; t < THREADS; t++) {
                if (writes[t] > clock[t] || (write && reads[t] > clock[t])) {
                    return true;
                }
            }
            return false;
        }
    }

    private static final class RaceLog {
        private final int[] parts = new int[RACES * RACE_PARTS];
        private int total;

        void clear() {
            total = 0;
        }

        void add(int step, int thread, int cell, boolean write) {
            if (total < RACES) {
                int at = total * RACE_PARTS;
                parts[at] = step;
                parts[at + 1] = thread;
                parts[at + 2] = cell;
                parts[at + 3] = write ? 1 : 0;
            }
            total++;
        }

        int part(int i, int what) {
            boolean there = isBelow(i, Math.min(total, RACES)) && isBelow(what, RACE_PARTS);
            return there ? parts[i * RACE_PARTS + what] : NONE;
        }
    }

    /** The run, if there is one: a run has a thread from its start on. */
    private static final class Run {
        private final Shelf shelf;
        private final Strand[] strands = new Strand[THREADS];
        private final Lock[] locks = new Lock[LOCKS];
        private final Cell[] cells = new Cell[CELLS];
        private final RaceLog raceLog = new RaceLog();
        private int strandCount;
        private int steps;

        Run(Shelf shelf) {
            this.shelf = shelf;
            for (int t = 0; t < THREADS; t++) {
                strands[t] = new Strand(t);
            }
            for (int l = 0; l < LOCKS; l++) {
                locks[l] = new Lock();
            }
            for (int c = 0; c < CELLS; c++) {
                cells[c] = new Cell();
            }
        }

        void begin(int body, int has) {
            for (int l = 0; l < LOCKS; l++) {
                locks[l].clear();
            }
            for (int c = 0; c < CELLS; c++) {
                cells[c].clear();
            }
            raceLog.clear();
            steps = 0;
            strandCount = 1;
            Arrays.fill(strands[0].clock, 0);
            strands[0].begin(body, has);
            leaveEnded(strands[0]);
        }

        int advance(int thread) {
            if (!isBelow(thread, strandCount) || steps >= STEPS) {
                return NONE;
            }
            Strand strand = strands[thread];
            if (strand.isDone()) {
                return NONE;
            }
            if (wouldWait(strand)) {
                return 0;
            }
            steps++;
            strand.clock[thread] = steps;
            perform(strand);
            leaveEnded(strand);
            return 1;
        }

        private Body bodyOf(Strand strand) {
            return shelf.bodies[strand.bodies[strand.depth - 1]];
        }

        private static int placeOf(Strand strand) {
            return strand.places[strand.depth - 1];
        }

        private void leaveEnded(Strand strand) {
            while (strand.depth > 0 && placeOf(strand) >= bodyOf(strand).size) {
                strand.depth--;
            }
        }

        private boolean wouldWait(Strand strand) {
            Body body = bodyOf(strand);
            int place = placeOf(strand);
            return body.kinds[place] == SYNC && locks[body.numbers[place]].refuses(strand);
        }

        private void perform(Strand strand) {
            Body body = bodyOf(strand);
            int place = placeOf(strand);
            int number = body.numbers[place];
            // First of all, so that jumps change it and a CALL leaves its body standing behind it.
            strand.moveTo(place + 1);
            switch (body.kinds[place]) {
                case READ:
                    readCell(strand, number);
                    break;
                case WRITE:
                    writeCell(strand, number);
                    break;
                case ADD:
                    strand.value += number;
                    break;
                case SET:
                    strand.value = number;
                    break;
                case SYNC:
                    locks[number].take(strand);
                    break;
                case END:
                    endBlock(strand, body, body.partners[place]);
                    break;
                case IF:
                case WHILE:
                    if (strand.value == 0) {
                        strand.moveTo(body.partners[place] + 1);
                    }
                    break;
                case ELSE:
                    strand.moveTo(body.partners[place] + 1);
                    break;
                case FORK:
                    fork(strand, number);
                    break;
                default:
                    if (shelf.contains(number)) {
                        strand.enter(number);
                    }
                    break;
            }
        }

        private void readCell(Strand strand, int c) {
            noteRace(strand, c, false);
            cells[c].reads[strand.number] = steps;
            strand.value = cells[c].value;
        }

        private void writeCell(Strand strand, int c) {
            noteRace(strand, c, true);
            cells[c].writes[strand.number] = steps;
            cells[c].value = strand.value;
        }

        private void noteRace(Strand strand, int c, boolean write) {
            if (cells[c].races(strand.clock, write)) {
                raceLog.add(steps - 1, strand.number, c, write);
            }
        }

        private void endBlock(Strand strand, Body body, int begin) {
            if (body.kinds[begin] == SYNC) {
                locks[body.numbers[begin]].release(strand);
            } else if (body.kinds[begin] == WHILE) {
                strand.moveTo(begin);
            }
        }

        private void fork(Strand parent, int body) {
            if (!shelf.contains(body) || strandCount >= THREADS) {
                return;
            }
            Strand child = strands[strandCount];
            strandCount++;
            System.arraycopy(parent.clock, 0, child.clock, 0, THREADS);
            child.begin(body, parent.value);
            leaveEnded(child);
        }

        int valueOf(int thread) {
            return isBelow(thread, strandCount) ? strands[thread].value : 0;
        }

        int contentOf(int c) {
            return isBelow(c, CELLS) ? cells[c].value : 0;
        }

        int holderOf(int lock) {
            return isBelow(lock, LOCKS) ? locks[lock].holder : NONE;
        }

        int stateOf(int thread) {
            if (!isBelow(thread, strandCount)) {
                return NONE;
            }
            if (strands[thread].isDone()) {
                return DONE;
            }
            return wouldWait(strands[thread]) ? WAITS : GOES_ON;
        }

        int countOf(int what) {
            if (strandCount == 0) {
                return NONE;
            }
            switch (what) {
                case 0:
                    return strandCount;
                case 1:
                    return steps;
                case 2:
                    return raceLog.total;
                default:
                    return NONE;
            }
        }

        int racePart(int i, int what) {
            return raceLog.part(i, what);
        }

        boolean isStuck() {
            boolean oneWaits = false;
            for (int t = 0; t < strandCount; t++) {
                int state = stateOf(t);
                if (state == GOES_ON) {
                    return false;
                }
                oneWaits = oneWaits || state == WAITS;
            }
            return oneWaits;
        }
    }
}
