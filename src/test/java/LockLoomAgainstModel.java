import java.util.ArrayList;
import java.util.BitSet;
import java.util.List;
import java.util.Random;

/**
 * Many runs of calls, made by a generator with fixed seeds, on LockLoom and on a model that
 * follows the document word by word: it keeps every step with the set of all steps before it.
 */
public final class LockLoomAgainstModel {
    private static final int RUNS = 4000;
    private static final int CALLS = 512;
    private static final int BEFORE_LOOK = CALLS - 75;

    private static final String[] EVENTS = {
        "waits", "stuck", "races", "more than 64 races", "refused FORKs", "refused CALLs", "bodies 8 deep",
        "six threads", "refused bodies", "sound with a WRITE", "locks taken twice", "all threads done",
    };

    private final int[] seen = new int[EVENTS.length];
    private int wrong = 0;

    public static void main(String[] args) {
        LockLoomAgainstModel all = new LockLoomAgainstModel();
        for (int seed = 0; seed < RUNS && all.wrong < 20; seed++) {
            new Pair(seed, all).play();
        }
        for (int e = 0; e < EVENTS.length; e++) {
            if (all.seen[e] < 20) {
                all.wrong++;
                System.out.println("the runs have too few " + EVENTS[e]);
            }
        }
        System.out.println(RUNS + " runs of calls, " + all.wrong + " answers not as the model's");
        if (all.wrong != 0) {
            System.exit(1);
        }
    }

    /** One object and one model, with the same calls. */
    private static final class Pair {
        private final LockLoom x = new LockLoom();
        private final Model m = new Model();
        private final LockLoomAgainstModel all;
        private final Random random;
        private final int seed;
        private final int cells;
        private final int locks;
        private final boolean manyLocks;
        private int calls = 0;

        Pair(int seed, LockLoomAgainstModel all) {
            this.seed = seed;
            this.all = all;
            random = new Random(seed);
            // Few cells and locks make threads meet.
            cells = 1 + random.nextInt(seed % 2 == 0 ? 2 : 8);
            locks = 1 + random.nextInt(seed % 3 == 0 ? 4 : 2);
            manyLocks = seed % 4 == 1;
        }

        void same(String call, int got, int want) {
            calls++;
            if (got != want) {
                all.wrong++;
                System.out.println("seed " + seed + ", call " + calls + ": " + call + " answered " + got + ", the model " + want);
            }
        }

        void same(String call, boolean got, boolean want) {
            same(call, got ? 1 : 0, want ? 1 : 0);
        }

        int any(int limit) {
            return random.nextInt(limit);
        }

        int odd(int limit) {
            return any(12) == 0 ? any(3) == 0 ? random.nextInt() : any(limit + 4) - 2 : any(limit);
        }

        void play() {
            int bodies = 1 + any(9);
            for (int b = 0; b < bodies && calls < 300; b++) {
                write(b);
            }
            for (int c = 0; c < cells; c++) {
                guard(c, any(5) == 0 ? -1 : any(locks));
            }
            for (int b = -1; b <= bodies; b++) {
                same("check", x.check(b), m.check(b));
            }
            sound();
            int runs = 1 + any(3);
            for (int r = 0; r < runs && calls < BEFORE_LOOK; r++) {
                begin(any(Math.max(1, m.bodies.size())), any(3));
                drive(r == runs - 1 ? BEFORE_LOOK : Math.min(BEFORE_LOOK, calls + any(150)));
            }
            look();
            note();
            while (calls < CALLS) {
                anything();
            }
        }

        void drive(int until) {
            int favourite = any(6);
            for (int i = 0; i < 3 * CALLS && calls < until; i++) {
                if (any(25) == 0) {
                    favourite = any(6);
                }
                if (any(40) == 0) {
                    anything();
                } else if (any(30) == 0) {
                    same("stuck", x.stuck(), m.stuck());
                } else {
                    step(any(3) == 0 ? favourite : any(Math.max(1, m.threads.size())));
                }
            }
        }

        void write(int b) {
            int requires = any(4) == 0 ? random.nextInt() : 0;
            block(2 + any(10), 3);
            if (any(15) == 0) {
                statement(5 + any(3), 0);
            }
            same("body", x.body(requires), m.body(requires));
            all.seen[8] += m.bodies.size() <= b && b < 8 ? 1 : 0;
        }

        void block(int size, int depth) {
            for (int i = 0; i < size && calls < 300; i++) {
                int which = manyLocks && any(2) == 0 ? 8 : any(14);
                if (which < 6) {
                    statement(which & 1, any(cells));
                } else if (which < 8) {
                    statement(2 + any(2), any(4) - 1);
                } else if (which < 11 && depth > 0) {
                    int kind = manyLocks || any(2) == 0 ? 4 : any(2) == 0 ? 6 : 8;
                    statement(kind, kind == 4 ? any(locks) : random.nextInt());
                    block(any(4), depth - 1);
                    if (kind == 6 && any(2) == 0) {
                        statement(7, 0);
                        block(any(3), depth - 1);
                    }
                    statement(5, 0);
                } else if (which < 13) {
                    statement(9 + any(2), any(8));
                } else {
                    statement(9, any(3));
                }
            }
        }

        void anything() {
            switch (any(14)) {
                case 0: statement(odd(11), odd(8)); break;
                case 1: int requires = random.nextInt(); same("body", x.body(requires), m.body(requires)); break;
                case 2: guard(odd(8), odd(5) - 1); break;
                case 3: int b = odd(8); same("check", x.check(b), m.check(b)); break;
                case 4: sound(); break;
                case 5: if (any(8) == 0) { begin(odd(8), random.nextInt()); } break;
                case 6: step(odd(6)); break;
                case 7: int t = odd(6); same("has", x.has(t), m.has(t)); break;
                case 8: int c = odd(8); same("cell", x.cell(c), m.cell(c)); break;
                case 9: int l = odd(4); same("holder", x.holder(l), m.holder(l)); break;
                case 10: int s = odd(6); same("state", x.state(s), m.state(s)); break;
                case 11: int w = odd(3); same("count", x.count(w), m.count(w)); break;
                case 12: int i = odd(66); int p = odd(4); same("race", x.race(i, p), m.race(i, p)); break;
                default: same("stuck", x.stuck(), m.stuck()); break;
            }
        }

        void statement(int kind, int number) {
            same("statement(" + kind + ", " + number + ")", x.statement(kind, number), m.statement(kind, number));
        }

        void guard(int c, int l) {
            same("guard", x.guard(c, l), m.guard(c, l));
        }

        void sound() {
            boolean sound = m.sound();
            same("sound", x.sound(), sound);
            for (List<int[]> body : m.bodies) {
                for (int[] s : body) {
                    all.seen[9] += sound && s[0] == 1 ? 1 : 0;
                }
            }
        }

        void begin(int b, int has) {
            same("start", x.start(b, has), m.start(b, has));
        }

        void step(int t) {
            int want = m.step(t);
            same("step(" + t + ")", x.step(t), want);
            all.seen[0] += want == 0 ? 1 : 0;
        }

        void look() {
            for (int i = 0; i < 6; i++) {
                same("has", x.has(i), m.has(i));
                same("state", x.state(i), m.state(i));
            }
            for (int i = 0; i < 8; i++) {
                same("cell", x.cell(i), m.cell(i));
            }
            for (int i = 0; i < 4; i++) {
                same("holder", x.holder(i), m.holder(i));
                same("count", x.count(i), m.count(i));
            }
            same("stuck", x.stuck(), m.stuck());
            // The last races and some of the others: 512 calls have no room for all of them.
            int last = Math.min(m.races.size(), 64);
            for (int k = 0; k < 32; k++) {
                int i = k < 12 ? last + 1 - k / 4 : any(last + 1);
                same("race(" + i + ", " + k % 4 + ")", x.race(i, k % 4), m.race(i, k % 4));
            }
        }

        void note() {
            int[] seen = all.seen;
            seen[1] += m.stuck() ? 1 : 0;
            seen[2] += m.races.size();
            seen[3] += m.races.size() > 64 ? 1 : 0;
            seen[4] += m.refusedForks;
            seen[5] += m.refusedCalls;
            seen[6] += m.deepest == 8 ? 1 : 0;
            seen[7] += m.threads.size() == 6 ? 1 : 0;
            seen[10] += m.takenTwice;
            seen[11] += !m.threads.isEmpty() && m.threads.stream().allMatch(t -> t.frames.isEmpty()) ? 1 : 0;
        }
    }

    private static final class Thread {
        int has;
        /** Body and place, the innermost last. */
        final List<int[]> frames = new ArrayList<>();
    }

    private static final class Step {
        int thread;
        int kind;
        int number;
        int made = -1;
        int freed = -1;
        int took = -1;
        final BitSet before = new BitSet();
    }

    private static final class Model {
        private List<int[]> text = new ArrayList<>();
        private final List<List<int[]>> bodies = new ArrayList<>();
        private final List<Integer> required = new ArrayList<>();
        private final int[] guards = {-1, -1, -1, -1, -1, -1, -1, -1};
        private final List<Thread> threads = new ArrayList<>();
        private final List<Step> steps = new ArrayList<>();
        private final List<int[]> races = new ArrayList<>();
        private int[] cells = new int[8];
        private int[] holders = {-1, -1, -1, -1};
        private int[] times = new int[4];
        private int refusedForks = 0;
        private int refusedCalls = 0;
        private int takenTwice = 0;
        private int deepest = 0;

        int statement(int kind, int number) {
            int[] limits = {8, 8, 0, 0, 4, 0, 0, 0, 0, 8, 8};
            if (kind < 0 || kind > 10 || text.size() == 64) {
                return -1;
            }
            if (limits[kind] > 0 && (number < 0 || number >= limits[kind])) {
                return -1;
            }
            text.add(new int[] {kind, number});
            return text.size();
        }

        int body(int requires) {
            List<int[]> body = text;
            text = new ArrayList<>();
            if (bodies.size() == 8 || readBlocks(body, 0) != body.size()) {
                return -1;
            }
            bodies.add(body);
            required.add(requires & 15);
            return bodies.size() - 1;
        }

        /** Reads statements and whole blocks from a place on: where it can't read on, -1 if a block is wrong. */
        private static int readBlocks(List<int[]> body, int from) {
            int at = from;
            while (at < body.size()) {
                int kind = body.get(at)[0];
                if (kind == 5 || kind == 7) {
                    return at;
                }
                at++;
                if (kind != 4 && kind != 6 && kind != 8) {
                    continue;
                }
                at = readBlocks(body, at);
                if (at >= 0 && at < body.size() && kind == 6 && body.get(at)[0] == 7) {
                    at = readBlocks(body, at + 1);
                }
                if (at < 0 || at >= body.size() || body.get(at)[0] != 5) {
                    return -1;
                }
                at++;
            }
            return at;
        }

        /** The END (or, if it is asked for, the ELSE) of the block that is open before a place. */
        private static int endOf(List<int[]> body, int from, boolean orElse) {
            int depth = 0;
            for (int at = from; at < body.size(); at++) {
                int kind = body.get(at)[0];
                if (depth == 0 && (kind == 5 || (kind == 7 && orElse))) {
                    return at;
                }
                depth += kind == 4 || kind == 6 || kind == 8 ? 1 : kind == 5 ? -1 : 0;
            }
            throw new IllegalStateException("no end");
        }

        private static int beginOf(List<int[]> body, int end) {
            for (int at = end - 1; at >= 0; at--) {
                int kind = body.get(at)[0];
                if ((kind == 4 || kind == 6 || kind == 8) && endOf(body, at + 1, false) == end) {
                    return at;
                }
            }
            throw new IllegalStateException("no begin");
        }

        boolean guard(int cell, int lock) {
            if (cell < 0 || cell > 7 || lock < -1 || lock > 3) {
                return false;
            }
            guards[cell] = lock;
            return true;
        }

        private boolean held(int b, int at, int lock) {
            if ((required.get(b) >> lock & 1) == 1) {
                return true;
            }
            List<int[]> body = bodies.get(b);
            for (int i = 0; i < at; i++) {
                if (body.get(i)[0] == 4 && body.get(i)[1] == lock && endOf(body, i + 1, false) > at) {
                    return true;
                }
            }
            return false;
        }

        private boolean right(int b, int at) {
            int kind = bodies.get(b).get(at)[0];
            int number = bodies.get(b).get(at)[1];
            if (kind == 0) {
                return guards[number] == -1 || held(b, at, guards[number]);
            }
            if (kind == 1) {
                return guards[number] != -1 && held(b, at, guards[number]);
            }
            if (kind == 9) {
                return number < bodies.size() && required.get(number) == 0;
            }
            if (kind == 10) {
                if (number >= bodies.size()) {
                    return false;
                }
                for (int l = 0; l < 4; l++) {
                    if ((required.get(number) >> l & 1) == 1 && !held(b, at, l)) {
                        return false;
                    }
                }
            }
            return true;
        }

        int check(int b) {
            if (b < 0 || b >= bodies.size()) {
                return -1;
            }
            int at = 0;
            while (at < bodies.get(b).size() && right(b, at)) {
                at++;
            }
            return at;
        }

        boolean sound() {
            for (int b = 0; b < bodies.size(); b++) {
                if (check(b) != bodies.get(b).size()) {
                    return false;
                }
            }
            return true;
        }

        boolean start(int b, int has) {
            if (b < 0 || b >= bodies.size()) {
                return false;
            }
            threads.clear();
            steps.clear();
            races.clear();
            cells = new int[8];
            holders = new int[] {-1, -1, -1, -1};
            times = new int[4];
            addThread(b, has);
            return true;
        }

        private void addThread(int b, int has) {
            Thread t = new Thread();
            t.has = has;
            t.frames.add(new int[] {b, 0});
            threads.add(t);
            leave(t);
        }

        private void leave(Thread t) {
            while (!t.frames.isEmpty() && top(t)[1] == bodies.get(top(t)[0]).size()) {
                t.frames.remove(t.frames.size() - 1);
            }
        }

        private static int[] top(Thread t) {
            return t.frames.get(t.frames.size() - 1);
        }

        private int[] next(Thread t) {
            return bodies.get(top(t)[0]).get(top(t)[1]);
        }

        int step(int n) {
            int state = state(n);
            if (state == -1 || state == 2 || steps.size() == 4000) {
                return -1;
            }
            if (state == 1) {
                return 0;
            }
            Thread t = threads.get(n);
            Step step = new Step();
            step.thread = n;
            step.kind = next(t)[0];
            step.number = next(t)[1];
            perform(t, n, step);
            leave(t);
            order(step);
            return 1;
        }

        private void perform(Thread t, int n, Step step) {
            int[] frame = top(t);
            List<int[]> body = bodies.get(frame[0]);
            int at = frame[1];
            frame[1] = at + 1;
            switch (step.kind) {
                case 0: t.has = cells[step.number]; break;
                case 1: cells[step.number] = t.has; break;
                case 2: t.has += step.number; break;
                case 3: t.has = step.number; break;
                case 4: sync(n, step); break;
                case 5: end(body, frame, at, step); break;
                case 6: frame[1] = t.has == 0 ? endOf(body, at + 1, true) + 1 : at + 1; break;
                case 7: frame[1] = endOf(body, at + 1, false) + 1; break;
                case 8: frame[1] = t.has == 0 ? endOf(body, at + 1, false) + 1 : at + 1; break;
                case 9: fork(t, step); break;
                default: call(t, step.number); break;
            }
        }

        private void sync(int n, Step step) {
            if (times[step.number] == 0) {
                step.took = step.number;
            } else {
                takenTwice++;
            }
            holders[step.number] = n;
            times[step.number]++;
        }

        private void end(List<int[]> body, int[] frame, int at, Step step) {
            int begin = beginOf(body, at);
            if (body.get(begin)[0] == 8) {
                frame[1] = begin;
            }
            if (body.get(begin)[0] == 4) {
                int lock = body.get(begin)[1];
                times[lock]--;
                if (times[lock] == 0) {
                    holders[lock] = -1;
                    step.freed = lock;
                }
            }
        }

        private void fork(Thread t, Step step) {
            if (step.number < bodies.size() && threads.size() < 6) {
                step.made = threads.size();
                addThread(step.number, t.has);
            } else {
                refusedForks++;
            }
        }

        private void call(Thread t, int b) {
            if (b < bodies.size() && t.frames.size() < 8) {
                t.frames.add(new int[] {b, 0});
                deepest = Math.max(deepest, t.frames.size());
            } else {
                refusedCalls++;
            }
        }

        /** Finds all steps before this one, and whether it races. */
        private void order(Step step) {
            for (int i = 0; i < steps.size(); i++) {
                Step earlier = steps.get(i);
                if (earlier.thread == step.thread || earlier.made == step.thread || (earlier.freed >= 0 && earlier.freed == step.took)) {
                    step.before.set(i);
                    step.before.or(earlier.before);
                }
            }
            boolean races = false;
            for (int i = 0; i < steps.size() && step.kind <= 1; i++) {
                Step earlier = steps.get(i);
                boolean meets = earlier.kind <= 1 && earlier.number == step.number && earlier.thread != step.thread;
                races |= meets && (earlier.kind == 1 || step.kind == 1) && !step.before.get(i);
            }
            if (races) {
                this.races.add(new int[] {steps.size(), step.thread, step.number, step.kind});
            }
            steps.add(step);
        }

        int has(int n) {
            return n >= 0 && n < threads.size() ? threads.get(n).has : 0;
        }

        int cell(int c) {
            return c >= 0 && c < 8 ? cells[c] : 0;
        }

        int holder(int l) {
            return l >= 0 && l < 4 ? holders[l] : -1;
        }

        int state(int n) {
            if (n < 0 || n >= threads.size()) {
                return -1;
            }
            Thread t = threads.get(n);
            if (t.frames.isEmpty()) {
                return 2;
            }
            int[] next = next(t);
            return next[0] == 4 && times[next[1]] > 0 && holders[next[1]] != n ? 1 : 0;
        }

        int count(int what) {
            if (threads.isEmpty() || what < 0 || what > 2) {
                return -1;
            }
            return what == 0 ? threads.size() : what == 1 ? steps.size() : races.size();
        }

        int race(int i, int what) {
            boolean there = i >= 0 && i < races.size() && i < 64 && what >= 0 && what < 4;
            // Kinds READ and WRITE are 0 and 1, as what 3 asks.
            return there ? races.get(i)[what] : -1;
        }

        boolean stuck() {
            boolean waits = false;
            for (int n = 0; n < threads.size(); n++) {
                if (state(n) == 0) {
                    return false;
                }
                waits |= state(n) == 1;
            }
            return waits;
        }
    }
}
