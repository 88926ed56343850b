import java.util.ArrayDeque;
import java.util.ArrayList;
import java.util.Deque;
import java.util.List;
import java.util.Random;

/**
 * Runs of calls by chance on canals by chance, each answer compared with the Model's (all promises but the faults).
 * An object is used for at most 512 calls, as nothing is promised beyond.
 */
public final class ModelTest {
    private static final Due due = new Due();
    private static final int RUNS = 300;
    private static final int MOST_CALLS = 512;

    private final Random r;
    private final Model m;
    private final SidePonds x = new SidePonds();
    private final Deque<Model.State> undone = new ArrayDeque<>();
    private final List<int[]> facts = new ArrayList<>();
    private Model.State image;
    private int known = -1;
    private int calls;

    private ModelTest(int seed) {
        r = new Random(seed);
        m = new Model(r);
        due.in("run " + seed + " of " + m.text.replace('\n', ' '));
    }

    /** One call and its answer. */
    private void is(String call, long got, long want) {
        calls++;
        due.is(call, got, want);
    }

    private void is(String call, boolean got, boolean want) {
        is(call, got ? 1 : 0, want ? 1 : 0);
    }

    private boolean hasRoom(int more) {
        return calls + more <= MOST_CALLS;
    }

    private int pond() {
        return r.nextInt(m.ponds.size());
    }

    private int knownNow() {
        return known < 0 ? facts.size() : known;
    }

    private void note() {
        undone.addLast(m.now.copy());
        if (undone.size() > 20) {
            undone.removeFirst();
        }
    }

    private void act() {
        int p = pond();
        int by = 1 + r.nextInt(99);
        switch (r.nextInt(10)) {
            case 0: case 1: drawOnce(); break;
            case 2:
                note();
                m.now.water[p] = m.now.water[p] >= 9999 ? m.now.water[p] : Math.min(9999, m.now.water[p] + by);
                is("fill", x.fill(p, by), m.now.water[p]);
                break;
            case 3:
                if (m.now.water[p] < by) {
                    is("spill", x.spill(p, by), -2);
                } else {
                    note();
                    m.now.water[p] -= by;
                    is("spill", x.spill(p, by), m.now.water[p]);
                }
                break;
            case 4: mendOnce(); break;
            case 5: case 6: goOn(r.nextInt(4) == 0 ? r.nextInt(30) : r.nextInt(4)); break;
            case 7: undoOnce(); break;
            case 8: keepOrBack(); break;
            default: addFact(); break;
        }
    }

    private void drawOnce() {
        if (m.pipes.isEmpty()) {
            return;
        }
        int pipe = r.nextInt(m.pipes.size());
        int most = r.nextBoolean() ? 999 : 1 + r.nextInt(9);
        if (m.now.jammed[pipe]) {
            is("draw", x.draw(pipe, most), -2);
        } else {
            note();
            is("draw", x.draw(pipe, most), m.run(m.now, pipe, most));
        }
    }

    private void mendOnce() {
        for (int pipe = 0; pipe < m.pipes.size(); pipe++) {
            boolean was = m.now.jammed[pipe];
            if (was) {
                note();
            }
            m.now.jammed[pipe] = false;
            is("mend", x.mend(pipe), was);
        }
    }

    private void goOn(int n) {
        if (m.now.minute + n > 9800) {
            is("go behind", x.go(n), -1);
            return;
        }
        m.now = m.later(m.now, n, true, new Model.Otherwise());
        is("go", x.go(n), m.now.minute);
        if (n > 0) {
            undone.clear();
        }
    }

    private void undoOnce() {
        if (undone.isEmpty()) {
            is("undo", x.undo(), -1);
        } else {
            m.now = undone.removeLast();
            is("undo", x.undo(), undone.size());
        }
    }

    private void keepOrBack() {
        if (r.nextBoolean()) {
            image = m.now.copy();
            is("keep", x.keep(), m.now.minute);
        } else if (image == null) {
            is("back", x.back(), -1);
        } else {
            m.now = image.copy();
            undone.clear();
            is("back", x.back(), m.now.minute);
        }
    }

    private void addFact() {
        boolean full = facts.size() >= 24;
        if (r.nextInt(4) == 0 && !facts.isEmpty()) {
            int struck = r.nextInt(facts.size());
            is("strike", x.strike(struck), full ? -1 : facts.size());
            if (!full) {
                facts.add(new int[] {-1, struck});
            }
            return;
        }
        int minutes = 1 + r.nextInt(r.nextBoolean() ? 60 : 6);
        int p = pond();
        Model.Otherwise o = new Model.Otherwise();
        o.leakPond = pond();
        o.leakBy = r.nextInt(10);
        int water = (int) Math.min(9999, m.later(m.start(), minutes, false, o).water[p] + r.nextInt(2));
        boolean atLeast = r.nextBoolean();
        is("see", x.see(minutes, p, water, atLeast), full ? -1 : facts.size());
        if (!full) {
            facts.add(new int[] {minutes, p, water, atLeast ? 1 : 0});
        }
        if (r.nextInt(3) == 0) {
            known = r.nextInt(facts.size() + 2) - 1;
            is("known", x.known(known), true);
        }
    }

    private void compareState() {
        long water = 0;
        for (int p = 0; p < m.ponds.size(); p++) {
            is("water", x.pond(p, 2), m.now.water[p]);
            is("spring", x.pond(p, 3), m.springs[p]);
            long[] level = Model.least(m.above(m.now, p), m.area(p));
            is("level above", x.level(p, 0), level[0]);
            is("level below", x.level(p, 1), level[1]);
            Long leak = m.worth(m.now, 1, p, 0, new Model.Otherwise());
            is("law leak", x.law(1, p), leak == null ? Long.MIN_VALUE : leak);
            is("reach", x.reach(p), m.reach(p));
            water += m.now.water[p];
        }
        comparePipes();
        compareBoats();
        long[] counts = {m.ponds.size(), m.locks.size(), m.pipes.size(), m.turns.size(), m.boats.size(), m.knots(),
            m.now.minute, water, in(), m.up(m.now), m.waited(m.now), m.now.toll, m.jammed(m.now), facts.size(),
            knownNow(), undone.size()};
        for (int what = 0; what < counts.length; what++) {
            is("count(" + what + ")", x.count(what), counts[what]);
        }
    }

    private int in() {
        int sum = 0;
        for (int s : m.now.stage) {
            sum += s == 1 ? 1 : 0;
        }
        return sum;
    }

    private void comparePipes() {
        for (int p = 0; p < m.pipes.size(); p++) {
            int[] pipe = m.pipes.get(p);
            Model.State s = m.now.copy();
            is("one end", x.pipe(p, 0), pipe[0]);
            is("other end", x.pipe(p, 1), pipe[1]);
            is("wide", x.pipe(p, 2), pipe[2]);
            is("open", x.pipe(p, 3), m.isOpen(m.now, p, new Model.Otherwise()) ? 1 : 0);
            is("jammed", x.pipe(p, 4), m.now.jammed[p] ? 1 : 0);
            is("runs from", x.runs(p, 1), m.from(m.now, p));
            is("runs", x.runs(p, 0), m.run(s, p, Long.MAX_VALUE));
            Long flow = m.worth(m.now, 0, m.from(m.now, p), pipe[2], new Model.Otherwise());
            is("law flow", x.law(0, p), flow == null ? Long.MIN_VALUE : flow);
        }
    }

    private void compareBoats() {
        for (int l = 0; l < m.locks.size(); l++) {
            int[] lock = m.locks.get(l);
            int in = -2;
            for (int b = 0; b < m.boats.size(); b++) {
                in = m.now.stage[b] == 1 && m.boats.get(b)[0] == l ? b : in;
            }
            is("boat in", x.lock(l, 3), in);
            for (int what = 0; what < 3; what++) {
                is("lock " + what, x.lock(l, what), lock[what]);
            }
            is("lock of a pond", x.pond(lock[0], 4), l);
            int lift = m.area(lock[0]) * Math.max(0, lock[2] - lock[1]);
            is("lift", x.lift(l), lift);
            int p = pond();
            is("lockfuls", x.lockfuls(p, l), lift == 0 ? 999 : m.now.water[p] / lift);
        }
        for (int b = 0; b < m.boats.size(); b++) {
            is("lock of a boat", x.boat(b, 0), m.boats.get(b)[0]);
            is("from", x.boat(b, 1), m.boats.get(b)[1]);
            is("stage", x.boat(b, 2), m.now.stage[b]);
            is("waited", x.boat(b, 3), m.now.waited[b]);
            Long toll = m.worth(m.now, 2, m.locks.get(m.boats.get(b)[0])[0], 0, new Model.Otherwise());
            is("law toll", x.law(2, b), toll == null ? Long.MIN_VALUE : toll);
        }
    }

    private void compareWhatComes() {
        int n = r.nextInt(r.nextBoolean() ? 201 : 20);
        Model.State s = m.later(m.now, n, false, new Model.Otherwise());
        int p = pond();
        is("ahead water", x.ahead(n, 0, p), s.water[p]);
        is("ahead up", x.ahead(n, 1, p), m.up(s));
        is("ahead waited", x.ahead(n, 2, p), m.waited(s) - m.waited(m.now));
        is("ahead jammed", x.ahead(n, 3, p), m.jammed(s));
        is("ahead toll", x.ahead(n, 4, p), s.toll - m.now.toll);
        for (int b = 0; b < m.boats.size(); b++) {
            Model.State t = m.now.copy();
            int when = 0;
            while (when <= 199 && t.stage[b] != 2) {
                m.minute(t, false, new Model.Otherwise());
                when++;
            }
            is("upWhen", x.upWhen(b), when > 199 ? -2 : when);
        }
        for (int what = 0; what < 5; what++) {
            if (what != 2 || !m.pipes.isEmpty()) {
                int i = what == 2 ? r.nextInt(m.pipes.size()) : 0;
                is("tried(" + what + ")", x.tried(what, i, n), m.tried(what, i, n));
            }
        }
        if (!m.pipes.isEmpty()) {
            int seed = r.nextInt() & Integer.MAX_VALUE;
            int pipe = r.nextInt(m.pipes.size());
            int minutes = 1 + r.nextInt(40);
            is("chance", x.chance(seed, minutes, pipe), m.chance(seed, minutes, pipe));
        }
    }

    private void compareLevels() {
        int bits = 1 + r.nextInt((1 << m.ponds.size()) - 1);
        is("joined above", x.joined(bits, 0), m.joined(bits)[0]);
        is("joined below", x.joined(bits, 1), m.joined(bits)[1]);
        int p = pond();
        int q = pond();
        int height = (int) (m.above(m.now, p) / m.area(p)) - 2 + r.nextInt(6);
        height = Math.max(0, Math.min(999, height));
        long need = 0;
        Model.State s = m.now.copy();
        while (!m.atLeast(s, p, height)) {
            s.water[p]++;
            need++;
        }
        is("needs", x.needs(p, height), need);
        s = m.now.copy();
        long spare = 0;
        while (s.water[p] > 0 && m.atLeast(s, p, height)) {
            s.water[p]--;
            spare += m.atLeast(s, p, height) ? 1 : 0;
        }
        is("spare", x.spare(p, height), spare);
        int[] game = m.game(p, height);
        is("game", x.game(p, height, 0), game[0]);
        is("game draws", x.game(p, height, 1), game[1]);
        int high = 0;
        int low = 0;
        for (int k = 1; k < m.ponds.size(); k++) {
            high = m.compareLevels(m.now, k, high) > 0 ? k : high;
            low = m.compareLevels(m.now, k, low) < 0 ? k : low;
        }
        is("highest", x.highest(0), high);
        is("lowest", x.highest(1), low);
        long by = Math.abs(m.above(m.now, p) * m.area(q) - m.above(m.now, q) * m.area(p));
        long[] apart = Model.least(by, (long) m.area(p) * m.area(q));
        is("apart above", x.apart(p, q, 0), apart[0]);
        is("apart below", x.apart(p, q, 1), apart[1]);
        long[] still = m.still();
        is("still", x.still(0, 0), still[0]);
        is("still water", x.still(1, p), still[1 + p]);
        compareTwo(p, q);
    }

    private void compareTwo(int p, int q) {
        if (p == q) {
            is("pass", x.pass(p, q), -1);
            is("rests", x.rests(p, q), -1);
            return;
        }
        is("pass", x.pass(p, q), m.pass(p, q));
        List<Integer> rests = m.rests(p, q);
        is("rests", x.rests(p, q), rests.size());
        for (int k = 0; k < 4; k++) {
            is("rest", x.rest(p, q, k), k < rests.size() ? rests.get(k) : -2);
        }
    }

    private void compareOpenings() {
        int p = pond();
        int q = pond();
        int height = (int) (m.above(m.now, p) / m.area(p)) + r.nextInt(8);
        if (height > 999 || m.pipes.size() > 6) {
            return;
        }
        int[] fewest = m.fewest(p, height);
        is("fewest", x.fewest(p, height, 0), fewest == null ? -2 : fewest[0]);
        is("first", x.fewest(p, height, 1), fewest == null ? -2 : fewest[1]);
        if (p != q) {
            is("draws", x.draws(p, height, q), m.draws(p, height, q));
        }
    }

    private void compareFacts() {
        int p = pond();
        is("leaks", x.leaks(p), m.leaks(p, facts, knownNow()));
        int[] ask = m.ask(p, facts, knownNow());
        is("ask", x.ask(p, 0), ask[0]);
        is("left", x.ask(p, 1), ask[1]);
    }

    /** To where some of the calls to come would go behind the last MINUTE. */
    private void goNearTheLast() {
        for (int i = 0; i < 48; i++) {
            goOn(200);
        }
        goOn(150 + r.nextInt(50));
    }

    private void compareHolds() {
        int n = r.nextInt(7);
        long[] holds = Model.least(power(100 - m.jam, n), power(100, n));
        is("holds above", x.holds(n, 0), holds[0]);
        is("holds below", x.holds(n, 1), holds[1]);
    }

    private static long power(long of, int n) {
        long power = 1;
        for (int i = 0; i < n; i++) {
            power *= of;
        }
        return power;
    }

    /** What comes next, by chance; each as far as there is room for all of its calls. */
    private void step() {
        int chosen = r.nextInt(12);
        if (chosen == 0 && hasRoom(220)) {
            compareState();
        } else if (chosen == 1 && hasRoom(40)) {
            compareLevels();
        } else if (chosen == 2 && hasRoom(30)) {
            compareWhatComes();
        } else if (chosen == 3 && hasRoom(10)) {
            compareOpenings();
        } else if (chosen == 4 && hasRoom(10)) {
            compareFacts();
        } else if (chosen == 5 && hasRoom(10)) {
            compareHolds();
        } else if (hasRoom(12)) {
            act();
        }
    }

    private void run() {
        calls = (m.text.length() + 19) / 20;
        is("text", Due.tell(x, m.text), m.lines);
        if (r.nextInt(25) == 0) {
            goNearTheLast();
        }
        for (int i = 0; i < 120; i++) {
            step();
        }
        due.is("no more calls than promised", calls <= MOST_CALLS, true);
    }

    public static void main(String[] args) {
        int runs = args.length > 0 ? Integer.parseInt(args[0]) : RUNS;
        int first = args.length > 1 ? Integer.parseInt(args[1]) : 0;
        for (int seed = first; seed < first + runs; seed++) {
            new ModelTest(seed).run();
        }
        due.end();
    }
}
