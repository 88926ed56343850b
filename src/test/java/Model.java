import java.math.BigInteger;
import java.util.ArrayDeque;
import java.util.ArrayList;
import java.util.Arrays;
import java.util.Deque;
import java.util.List;
import java.util.Random;

/**
 * A second, slow telling of the document, by other ways than the class takes (measure by measure, row by row,
 * trees, augmenting paths), to be compared with it. It makes up its own canal and writes the TEXT of it.
 */
final class Model {
    static final BigInteger LIMIT = BigInteger.TEN.pow(12);

    /** A part of E; null as a value is an ERROR. */
    static final class Tree {
        String sign;
        Tree left;
        Tree right;
        String leaf;

        String text() {
            if (leaf != null) {
                return leaf;
            }
            if (right == null) {
                return "(not (" + left.text() + "))";
            }
            return "((" + left.text() + ") " + sign + " (" + right.text() + "))";
        }

        int knots() {
            return 1 + (left == null ? 0 : left.knots()) + (right == null ? 0 : right.knots());
        }

        BigInteger value(long[] names) {
            if (leaf != null) {
                int name = Arrays.asList("area", "floor", "water", "wide", "open", "boats", "minute").indexOf(leaf);
                return name < 0 ? new BigInteger(leaf) : BigInteger.valueOf(names[name]);
            }
            BigInteger a = left.value(names);
            BigInteger b = right == null ? BigInteger.ZERO : right.value(names);
            if (a == null || b == null) {
                return null;
            }
            BigInteger v = signed(a, b);
            return v == null || v.abs().compareTo(LIMIT) > 0 ? null : v;
        }

        private BigInteger signed(BigInteger a, BigInteger b) {
            switch (sign) {
                case "+": return a.add(b);
                case "-": return a.subtract(b);
                case "*": return a.multiply(b);
                case "/": return b.signum() == 0 ? null : a.divide(b);
                case "<": return truth(a.compareTo(b) < 0);
                case "<=": return truth(a.compareTo(b) <= 0);
                case "=": return truth(a.equals(b));
                case "<>": return truth(!a.equals(b));
                case ">=": return truth(a.compareTo(b) >= 0);
                case ">": return truth(a.compareTo(b) > 0);
                case "and": return truth(a.signum() != 0 && b.signum() != 0);
                case "or": return truth(a.signum() != 0 || b.signum() != 0);
                default: return truth(a.signum() == 0);
            }
        }

        private static BigInteger truth(boolean so) {
            return so ? BigInteger.ONE : BigInteger.ZERO;
        }
    }

    /** What a try may change, beside the numbers. */
    static final class Otherwise {
        boolean noJam;
        boolean noLeak;
        boolean noSpring;
        boolean allOpen;
        int never = -1;
        int leakPond = -1;
        int leakBy;
    }

    static final class State {
        long[] water;
        boolean[] jammed;
        int[] stage;
        int[] waited;
        int toll;
        int minute;
        long number;

        State copy() {
            State s = new State();
            s.water = water.clone();
            s.jammed = jammed.clone();
            s.stage = stage.clone();
            s.waited = waited.clone();
            s.toll = toll;
            s.minute = minute;
            s.number = number;
            return s;
        }
    }

    final List<int[]> ponds = new ArrayList<>();
    final List<int[]> locks = new ArrayList<>();
    final List<int[]> pipes = new ArrayList<>();
    final List<int[]> turns = new ArrayList<>();
    final List<int[]> boats = new ArrayList<>();
    final int[] springs;
    final Tree[] laws = new Tree[3];
    int jam;
    int seed;
    final String text;
    final int lines;
    State now;

    Model(Random r) {
        StringBuilder b = new StringBuilder();
        int count = 0;
        int areas = r.nextBoolean() ? 20 : 4;
        int floors = r.nextInt(3) == 0 ? 100 : 12;
        int waters = r.nextInt(3) == 0 ? 1000 : 60;
        int n = 1 + r.nextInt(7);
        for (int i = 0; i < n; i++) {
            int[] p = {1 + r.nextInt(areas), r.nextInt(floors), r.nextInt(waters)};
            ponds.add(p);
            b.append("pond ").append(name(i)).append(' ').append(p[0]).append(' ').append(p[1]).append(' ').append(p[2]).append(';');
            count++;
        }
        springs = new int[n];
        for (int i = 0; i < n; i++) {
            if (r.nextInt(3) == 0) {
                springs[i] = r.nextInt(10);
                b.append("spring ").append(name(i)).append(' ').append(springs[i]).append(";\n");
                count++;
            }
        }
        for (int i = 0; i < n && locks.size() < 3; i++) {
            if (r.nextInt(2) == 0) {
                int low = ponds.get(i)[1] + r.nextInt(20);
                int[] l = {i, low, Math.min(199, Math.max(0, low - 3 + r.nextInt(12)))};
                locks.add(l);
                b.append("lock ").append(name(i)).append(' ').append(l[1]).append(' ').append(l[2]).append(';');
                count++;
            }
        }
        boolean[][] has = new boolean[n][n];
        for (int k = r.nextInt(14); k > 0 && pipes.size() < 10; k--) {
            int x = r.nextInt(n);
            int y = r.nextInt(n);
            if (x != y && !has[x][y]) {
                has[x][y] = true;
                has[y][x] = true;
                int[] p = {x, y, 1 + r.nextInt(99)};
                pipes.add(p);
                b.append("pipe ").append(name(x)).append(' ').append(name(y)).append(' ').append(p[2]).append(';');
                count++;
            }
        }
        for (int k = r.nextInt(13); k > 0 && !pipes.isEmpty(); k--) {
            int[] t = {r.nextInt(pipes.size()), r.nextInt(r.nextBoolean() ? 100 : 12), 1 + r.nextInt(20)};
            turns.add(t);
            b.append("turn ").append(t[0]).append(' ').append(t[1]).append(' ').append(t[2]).append(';');
            count++;
        }
        for (int k = r.nextInt(9); k > 0 && !locks.isEmpty(); k--) {
            int[] t = {r.nextInt(locks.size()), r.nextInt(r.nextBoolean() ? 100 : 8)};
            boats.add(t);
            b.append("boat ").append(name(locks.get(t[0])[0])).append(' ').append(t[1]).append(';');
            count++;
        }
        if (r.nextInt(3) > 0) {
            jam = new int[] {0, 100, 50, 49, r.nextInt(101), r.nextInt(20)}[r.nextInt(6)];
            b.append("jam ").append(jam).append(';');
            count++;
        }
        if (r.nextBoolean()) {
            seed = r.nextInt(100000);
            b.append("seed ").append(seed).append(';');
            count++;
        }
        int room = 600 - b.length();
        for (int rule = 0; rule < 3; rule++) {
            Tree e = tree(r, 3);
            if (r.nextBoolean() && e.text().length() + 12 < room) {
                laws[rule] = e;
                String law = "law " + new String[] {"flow", "leak", "toll"}[rule] + " " + e.text() + ";";
                room -= law.length();
                b.append(law);
                count++;
            }
        }
        text = b.toString();
        lines = count;
        now = start();
    }

    private static String name(int i) {
        return new String[] {"a", "bb", "c", "dddddd", "pon", "x", "ponds"}[i];
    }

    private static Tree tree(Random r, int deep) {
        Tree t = new Tree();
        if (deep == 0 || r.nextInt(3) == 0) {
            String[] names = {"area", "floor", "water", "wide", "open", "boats", "minute", "1", "2", "3", "5", "10", "9999"};
            t.leaf = r.nextInt(4) == 0 ? String.valueOf(r.nextInt(60)) : names[r.nextInt(names.length)];
            return t;
        }
        String[] signs = {"+", "-", "*", "/", "+", "-", "/", "<", "<=", "=", "<>", ">=", ">", "and", "or", "not"};
        t.sign = signs[r.nextInt(signs.length)];
        t.left = tree(r, deep - 1);
        t.right = t.sign.equals("not") ? null : tree(r, deep - 1);
        return t;
    }

    State start() {
        State s = new State();
        s.water = new long[ponds.size()];
        for (int i = 0; i < s.water.length; i++) {
            s.water[i] = ponds.get(i)[2];
        }
        s.jammed = new boolean[pipes.size()];
        s.stage = new int[boats.size()];
        s.waited = new int[boats.size()];
        s.number = seed;
        return s;
    }

    int knots() {
        int sum = 0;
        for (Tree t : laws) {
            sum += t == null ? 0 : t.knots();
        }
        return sum;
    }

    static int compare(long above, long below, long above2, long below2) {
        return Long.compare(above * below2, above2 * below);
    }

    long above(State s, int pond) {
        return (long) ponds.get(pond)[1] * ponds.get(pond)[0] + s.water[pond];
    }

    int area(int pond) {
        return ponds.get(pond)[0];
    }

    int compareLevels(State s, int a, int b) {
        return compare(above(s, a), area(a), above(s, b), area(b));
    }

    boolean atLeast(State s, int pond, int height) {
        return compare(above(s, pond), area(pond), height, 1) >= 0;
    }

    int from(State s, int pipe) {
        int[] p = pipes.get(pipe);
        return compareLevels(s, p[0], p[1]) >= 0 ? p[0] : p[1];
    }

    /** Measure by measure, as long as the one it runs from is as high at least then. */
    long run(State s, int pipe, long most) {
        int from = from(s, pipe);
        int to = pipes.get(pipe)[0] == from ? pipes.get(pipe)[1] : pipes.get(pipe)[0];
        long moved = 0;
        while (moved < most && s.water[from] > 0) {
            s.water[from]--;
            s.water[to]++;
            if (compareLevels(s, from, to) < 0) {
                s.water[from]++;
                s.water[to]--;
                break;
            }
            moved++;
        }
        return moved;
    }

    boolean isOpen(State s, int pipe, Otherwise o) {
        if (o.allOpen) {
            return true;
        }
        boolean turned = false;
        for (int[] t : turns) {
            turned |= t[0] == pipe && s.minute >= t[1] && s.minute < t[1] + t[2];
        }
        return turned && !s.jammed[pipe] && pipe != o.never;
    }

    /** Null: an ERROR, no law. */
    Long worth(State s, int rule, int pond, int wide, Otherwise o) {
        if (laws[rule] == null) {
            return null;
        }
        long open = 0;
        for (int p = 0; p < pipes.size(); p++) {
            open += isOpen(s, p, o) ? 1 : 0;
        }
        long in = Arrays.stream(s.stage).filter(x -> x == 1).count();
        BigInteger v = laws[rule].value(new long[] {area(pond), ponds.get(pond)[1], s.water[pond], wide, open, in, s.minute});
        return v == null ? null : v.longValueExact();
    }

    private static long put(Long worth, long most, long otherwise) {
        return worth == null ? otherwise : worth < 0 ? 0 : worth > most ? most : worth;
    }

    void minute(State s, boolean numbers, Otherwise o) {
        for (int p = 0; p < ponds.size() && !o.noSpring; p++) {
            for (int k = 0; k < springs[p] && s.water[p] < 9999; k++) {
                s.water[p]++;
            }
        }
        for (int p = 0; p < pipes.size(); p++) {
            if (isOpen(s, p, o)) {
                int wide = pipes.get(p)[2];
                run(s, p, put(worth(s, 0, from(s, p), wide, o), 99, wide));
                s.jammed[p] |= jams(s, numbers, o);
            }
        }
        for (int p = 0; p < ponds.size() && !o.noLeak; p++) {
            long leak = p == o.leakPond ? o.leakBy : put(worth(s, 1, p, 0, o), 99, 0);
            s.water[p] = Math.max(0, s.water[p] - leak);
        }
        for (int i = 0; i < boats.size(); i++) {
            boat(s, i, o);
        }
        s.minute++;
    }

    private boolean jams(State s, boolean numbers, Otherwise o) {
        if (o.noJam || jam == 0) {
            return false;
        }
        if (!numbers) {
            return jam >= 50;
        }
        if (jam == 100) {
            return true;
        }
        s.number = BigInteger.valueOf(s.number).multiply(BigInteger.valueOf(1103515245)).add(BigInteger.valueOf(12345))
                .mod(BigInteger.TWO.pow(31)).longValue();
        return s.number / 65536 % 100 < jam;
    }

    private void boat(State s, int i, Otherwise o) {
        if (s.minute < boats.get(i)[1] || s.stage[i] == 2) {
            return;
        }
        int[] lock = locks.get(boats.get(i)[0]);
        boolean free = true;
        for (int k = 0; k < boats.size(); k++) {
            free &= !(s.stage[k] == 1 && boats.get(k)[0] == boats.get(i)[0]);
        }
        if (s.stage[i] == 0 && free && compare(above(s, lock[0]), area(lock[0]), lock[1], 1) <= 0) {
            s.stage[i] = 1;
        }
        if (s.stage[i] == 1 && atLeast(s, lock[0], lock[2])) {
            s.toll += (int) put(worth(s, 2, lock[0], 0, o), 999, 1);
            s.stage[i] = 2;
        }
        if (s.stage[i] != 2) {
            s.waited[i]++;
        }
    }

    State later(State from, int n, boolean numbers, Otherwise o) {
        State s = from.copy();
        for (int i = 0; i < n; i++) {
            minute(s, numbers, o);
        }
        return s;
    }

    int up(State s) {
        return (int) Arrays.stream(s.stage).filter(x -> x == 2).count();
    }

    int waited(State s) {
        return Arrays.stream(s.waited).sum();
    }

    int jammed(State s) {
        int sum = 0;
        for (boolean j : s.jammed) {
            sum += j ? 1 : 0;
        }
        return sum;
    }

    static long[] least(long above, long below) {
        long g = BigInteger.valueOf(above).gcd(BigInteger.valueOf(below)).longValue();
        return new long[] {above / g, below / g};
    }

    /** Rises from floor to floor, as long as there is water for it. */
    long[] joined(int bits) {
        List<Integer> floors = new ArrayList<>();
        long water = 0;
        for (int p = 0; p < ponds.size(); p++) {
            if ((bits >> p & 1) == 1) {
                floors.add(ponds.get(p)[1]);
                water += now.water[p];
            }
        }
        floors.sort(null);
        for (int k = 0; k < floors.size(); k++) {
            long area = 0;
            for (int p = 0; p < ponds.size(); p++) {
                area += (bits >> p & 1) == 1 && ponds.get(p)[1] <= floors.get(k) ? area(p) : 0;
            }
            long toNext = k + 1 < floors.size() ? area * (floors.get(k + 1) - floors.get(k)) : Long.MAX_VALUE;
            if (water <= toNext) {
                return least(floors.get(k) * area + water, area);
            }
            water -= toNext;
        }
        throw new IllegalStateException();
    }

    /** All rows of so many OPENINGS by counting through them: the first row's first PIPE, or -2; null: none. */
    int[] fewest(int pond, int height) {
        for (int n = 0; n <= 4; n++) {
            int rows = (int) Math.pow(pipes.size(), n);
            for (int row = 0; row < rows; row++) {
                State s = opened(row, n);
                if (s != null && atLeast(s, pond, height)) {
                    return new int[] {n, n == 0 ? -2 : row / (rows / pipes.size())};
                }
            }
        }
        return null;
    }

    long draws(int pond, int height, int from) {
        long least = -2;
        for (int n = 0; n <= 4; n++) {
            int rows = (int) Math.pow(pipes.size(), n);
            for (int row = 0; row < rows; row++) {
                State s = opened(row, n);
                if (s != null && atLeast(s, pond, height)) {
                    long drawn = Math.max(0, now.water[from] - s.water[from]);
                    least = least == -2 ? drawn : Math.min(least, drawn);
                }
            }
        }
        return least;
    }

    private State opened(int row, int n) {
        int[] order = new int[n];
        for (int i = n - 1; i >= 0; i--) {
            order[i] = row % pipes.size();
            row /= pipes.size();
        }
        State s = now.copy();
        for (int pipe : order) {
            if (s.jammed[pipe]) {
                return null;
            }
            run(s, pipe, Long.MAX_VALUE);
        }
        return s;
    }

    /** The rounds in [0], then the water. */
    long[] still() {
        State s = now.copy();
        int rounds = 0;
        while (rounds < 99) {
            long moved = 0;
            for (int p = 0; p < pipes.size(); p++) {
                moved += s.jammed[p] ? 0 : run(s, p, Long.MAX_VALUE);
            }
            if (moved == 0) {
                break;
            }
            rounds++;
        }
        long[] all = new long[1 + s.water.length];
        all[0] = rounds;
        System.arraycopy(s.water, 0, all, 1, s.water.length);
        return all;
    }

    int reach(int pond) {
        boolean[] got = new boolean[ponds.size()];
        Deque<Integer> todo = new ArrayDeque<>(List.of(pond));
        got[pond] = true;
        while (!todo.isEmpty()) {
            int p = todo.pop();
            for (int k = 0; k < pipes.size(); k++) {
                int[] pipe = pipes.get(k);
                int to = pipe[0] == p ? pipe[1] : pipe[1] == p ? pipe[0] : p;
                if (!now.jammed[k] && !got[to]) {
                    got[to] = true;
                    todo.add(to);
                }
            }
        }
        int bits = 0;
        for (int p = 0; p < got.length; p++) {
            bits |= got[p] ? 1 << p : 0;
        }
        return bits;
    }

    /** By paths that have room, a measure each. */
    int pass(int from, int to) {
        int[][] room = new int[ponds.size()][ponds.size()];
        for (int k = 0; k < pipes.size(); k++) {
            int[] p = pipes.get(k);
            if (!now.jammed[k]) {
                room[p[0]][p[1]] += p[2];
                room[p[1]][p[0]] += p[2];
            }
        }
        int sum = 0;
        while (push(room, from, to, new boolean[ponds.size()])) {
            sum++;
        }
        return sum;
    }

    private boolean push(int[][] room, int at, int to, boolean[] seen) {
        if (at == to) {
            return true;
        }
        seen[at] = true;
        for (int next = 0; next < room.length; next++) {
            if (!seen[next] && room[at][next] > 0 && push(room, next, to, seen)) {
                room[at][next]--;
                room[next][at]++;
                return true;
            }
        }
        return false;
    }

    /** Who is to draw wins, by trying: over water 0 .. now. */
    int[] game(int pond, int height) {
        if (!atLeast(now, pond, height)) {
            return new int[] {2, -2};
        }
        int w = (int) now.water[pond];
        int[] first = new int[w + 1];
        State s = now.copy();
        for (int left = 0; left <= w; left++) {
            first[left] = -2;
            for (int draw = 3; draw >= 1; draw--) {
                if (draw <= left) {
                    s.water[pond] = left - draw;
                    if (atLeast(s, pond, height) && first[left - draw] == -2) {
                        first[left] = draw;
                    }
                }
            }
        }
        return new int[] {first[w] == -2 ? 1 : 0, first[w]};
    }

    List<Integer> rests(int one, int other) {
        long a = now.water[one];
        long b = now.water[other];
        long[][] mine = {{b / 10, 1}, {a / 10 + 2, a / 20}};
        long[][] yours = {{a / 10, b / 10 + 2}, {1, b / 20}};
        List<Integer> found = new ArrayList<>();
        for (int i = 0; i < 2; i++) {
            for (int k = 0; k < 2; k++) {
                if (mine[i][k] >= mine[1 - i][k] && yours[i][k] >= yours[i][1 - k]) {
                    found.add(10 * i + k);
                }
            }
        }
        return found;
    }

    /** A FACT: minutes, pond, water, 1 or 0 (at least), or {-1, the one it strikes}. */
    boolean isStruck(List<int[]> facts, int known, int fact) {
        for (int k = fact + 1; k < known; k++) {
            if (facts.get(k)[0] == -1 && facts.get(k)[1] == fact && !isStruck(facts, known, k)) {
                return true;
            }
        }
        return false;
    }

    int leaks(int pond, List<int[]> facts, int known) {
        int bits = 0;
        for (int leak = 0; leak < 10; leak++) {
            boolean so = true;
            for (int f = 0; f < known; f++) {
                int[] fact = facts.get(f);
                if (fact[0] != -1 && !isStruck(facts, known, f)) {
                    long had = leaking(pond, leak, fact[0]).water[fact[1]];
                    so &= fact[3] == 1 ? had >= fact[2] : had < fact[2];
                }
            }
            bits |= so ? 1 << leak : 0;
        }
        return bits;
    }

    private State leaking(int pond, int leak, int minutes) {
        Otherwise o = new Otherwise();
        o.leakPond = pond;
        o.leakBy = leak;
        return later(start(), minutes, false, o);
    }

    int[] ask(int pond, List<int[]> facts, int known) {
        int possible = leaks(pond, facts, known);
        int[] best = {1, 0};
        for (int minutes = 1; minutes <= 60; minutes++) {
            java.util.Map<Long, Integer> alike = new java.util.HashMap<>();
            for (int leak = 0; leak < 10; leak++) {
                if ((possible >> leak & 1) == 1) {
                    alike.merge(leaking(pond, leak, minutes).water[pond], 1, Integer::sum);
                }
            }
            int worst = alike.values().stream().max(Integer::compare).orElse(0);
            if (minutes == 1 || worst < best[1]) {
                best = new int[] {minutes, worst};
            }
        }
        return best;
    }

    int chance(int from, int n, int pipe) {
        long number = from;
        int times = 0;
        for (int k = 0; k < 10; k++) {
            State s = now.copy();
            s.number = number;
            s = later(s, n, true, new Otherwise());
            number = s.number;
            times += s.jammed[pipe] ? 1 : 0;
        }
        return times;
    }

    int tried(int what, int i, int n) {
        Otherwise o = new Otherwise();
        o.noJam = what == 0;
        o.noLeak = what == 1;
        o.never = what == 2 ? i : -1;
        o.noSpring = what == 3;
        o.allOpen = what == 4;
        return up(later(now, n, false, o));
    }
}
