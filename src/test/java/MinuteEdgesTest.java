/**
 * The boundaries that part 2 of the Terms names (what runs, when a PIPE is OPEN, a MINUTE in its four steps, NAMES,
 * VALUES, numbers), a test for each sentence: at the boundary, one before it, one behind it.
 */
public final class MinuteEdgesTest {
    private static final Due due = new Due();
    private static final long ERROR = Long.MIN_VALUE;
    private static final String PAIR = "pond a 1 0 900;pond b 1 0 0;pipe a b 7;turn 0 0 1;";

    private static SidePonds gone(int minutes, String text) {
        SidePonds x = Due.told(text);
        due.is("go in " + text, x.go(minutes), minutes);
        return x;
    }

    /** Water of the first and of the second POND, behind so many MINUTES. */
    private static int both(int minutes, String text) {
        SidePonds x = gone(minutes, text);
        return x.pond(0, 2) * 10000 + x.pond(1, 2);
    }

    // ---- what runs

    /** As many whole measures, but no more than by which its LEVEL is as high as the other one's at least then. */
    private static void wholeMeasures() {
        due.in("whole measures");
        for (int water = 0; water < 9; water++) {
            SidePonds x = Due.told("pond a 1 0 " + water + ";pond b 1 0 0;pipe b a 1;");
            due.is("of " + water, x.runs(0, 0), water / 2);
            due.is("drawn of " + water, x.draw(0, 999), water / 2);
            due.is("left of " + water, x.pond(0, 2), water - water / 2);
        }
        // areas 2 and 3: alike by 6 of 10; 5 4/10 of 9; 6 6/10 of 11
        int[] runs = {5, 6, 6, 7, 7, 8, 9};
        for (int water = 9; water < 16; water++) {
            due.is("of " + water, Due.told("pond a 2 0 " + water + ";pond b 3 0 0;pipe a b 1;").runs(0, 0), runs[water - 9]);
        }
        SidePonds alike = Due.told("pond a 2 0 10;pond b 3 0 0;pipe a b 1;");
        alike.draw(0, 999);
        due.is("alike then", alike.apart(0, 1, 0), 0);
        // the other one's FLOOR counts: 3 above b's by 12 of WATER, areas 4 and 1
        due.is("floors", Due.told("pond a 4 2 12;pond b 1 4 0;pipe a b 1;").runs(0, 0), 0);
        due.is("floors", Due.told("pond a 4 2 13;pond b 1 4 0;pipe a b 1;").runs(0, 0), 1);
        due.is("floors", Due.told("pond a 4 2 12;pond b 1 3 0;pipe a b 1;").runs(0, 0), 1);
    }

    /** As many as it has. */
    private static void asItHas() {
        due.in("as it has");
        for (int water = 0; water < 4; water++) {
            SidePonds x = Due.told("pond a 1 9 " + water + ";pond b 1 0 0;pipe a b 1;");
            due.is("of " + water, x.runs(0, 0), water);
            due.is("from", x.runs(0, 1), 0);
            due.is("drawn", x.draw(0, 999), water);
        }
        // 9 measures are just as many as leave LEVELS alike
        due.is("8", Due.told("pond a 1 9 8;pond b 1 0 0;pipe a b 1;").runs(0, 0), 8);
        due.is("9", Due.told("pond a 1 9 9;pond b 1 0 0;pipe a b 1;").runs(0, 0), 9);
        due.is("10", Due.told("pond a 1 9 10;pond b 1 0 0;pipe a b 1;").runs(0, 0), 9);
        due.is("11", Due.told("pond a 1 9 11;pond b 1 0 0;pipe a b 1;").runs(0, 0), 10);
    }

    /** None, if LEVELS are alike; it is from the first one told then. */
    private static void alike() {
        due.in("alike");
        for (int more = -1; more <= 1; more++) {
            SidePonds x = Due.told("pond a 2 1 " + (3 + more) + ";pond b 4 2 2;pipe b a 5;");
            due.is("runs", x.runs(0, 0), 0);
            due.is("from", x.runs(0, 1), more > 0 ? 0 : 1);
        }
        SidePonds y = Due.told("pond a 1 0 5;pond b 1 0 5;pipe a b 5;pond c 1 0 5;pipe c a 1;");
        due.is("from", y.runs(0, 1) * 10 + y.runs(1, 1), 2);
        due.is("drawn", y.draw(0, 999), 0);
    }

    /** That one may come to have more than 9999. */
    private static void moreThanFull() {
        due.in("more than 9999");
        for (int more = 0; more <= 2; more++) {
            SidePonds x = full("pond b 20 0 999;pond a 1 99 999;pipe a b 9;", 9989 + more);
            due.is("runs", x.draw(0, 9), 9);
            due.is("has", x.pond(0, 2), 9998 + more);
            due.is("filled", x.fill(0, 1), more == 2 ? 10000 : 9999);
        }
    }

    /** WIDE is nothing to what RUNS by call, nor is E of flow. */
    private static void wideByCall() {
        due.in("wide by call");
        for (String law : new String[] {"", "law flow 0;", "law flow 5;", "law flow 1/0;"}) {
            SidePonds x = Due.told("pond a 1 0 900;pond b 1 0 0;pipe a b 1;" + law);
            due.is("runs", x.runs(0, 0), 450);
            due.is("still", x.still(1, 1), 450);
            due.is("draw", x.draw(0, 999), 450);
        }
        SidePonds y = full("pond b 1 0 999;pond a 1 0 0;pipe a b 9;", 2000);
        due.is("999 at most", y.draw(0, 999), 999);
        due.is("998", y.undo() + y.draw(0, 998), y.count(15) - 1 + 998);
    }

    // ---- when it is OPEN

    /** From a MINUTE on (the one told is the first), for so many MINUTES. */
    private static void turns() {
        due.in("turns");
        int[][] turns = {{0, 1}, {0, 20}, {5, 1}, {5, 2}, {98, 20}, {99, 1}, {99, 19}, {99, 20}};
        for (int[] turn : turns) {
            int behind = turn[0] + turn[1];
            SidePonds x = Due.told("pond a 1 99 999;pond b 1 0 0;pipe a b 1;turn 0 " + turn[0] + " " + turn[1] + ";");
            for (int minute : new int[] {turn[0] - 1, turn[0], behind - 1, behind}) {
                int now = x.count(6);
                if (minute >= now) {
                    x.go(minute - now);
                    int open = minute >= turn[0] && minute < behind ? 1 : 0;
                    due.is("open in " + minute, x.pipe(0, 3), open);
                    due.is("would run in " + minute, x.ahead(1, 0, 1) - x.pond(1, 2), open);
                }
            }
            due.is("in all", x.ahead(200, 0, 1), turn[1]);
            x.go(200);
            due.is("much later", x.pipe(0, 3), 0);
        }
        due.is("none told", gone(150, "pond a 1 9 99;pond b 1 0 0;pipe a b 9;").pond(1, 2), 0);
    }

    /** Two at once are as one: it RUNS once, counts once, takes one number. */
    private static void turnsAtOnce() {
        due.in("turns at once");
        String two = "pond a 1 99 999;pond b 1 0 0;pipe a b 5;turn 0 2 3;turn 0 3 4;turn 0 3 1;";
        SidePonds x = Due.told(two + "law leak open;");
        int[] water = {0, 0, 4, 8, 12, 16, 20, 20, 20};
        for (int minute = 0; minute < 9; minute++) {
            due.is("ahead of " + minute, x.ahead(minute + 1, 0, 1), water[minute]);
            due.is("open in " + minute, x.ahead(minute + 1, 0, 0) - x.ahead(minute, 0, 0), minute >= 2 && minute < 7 ? -6 : 0);
        }
        for (int seed = 0; seed < 30; seed++) {
            String rest = "jam 30;seed " + seed + ";";
            SidePonds one = Due.told("pond a 1 99 999;pond b 1 0 0;pipe a b 5;turn 0 2 5;" + rest);
            SidePonds more = Due.told(two + rest);
            for (int minute = 0; minute < 8; minute++) {
                due.is("seed " + seed, more.pipe(0, 4) * 1000 + more.pond(1, 2), one.pipe(0, 4) * 1000 + one.pond(1, 2));
                one.go(1);
                more.go(1);
            }
        }
    }

    /** Unless it is JAMMED: not OPEN, takes no number, runs by no MINUTE, OPENING or ROUND; leads nowhere. */
    private static void jammed() {
        due.in("jammed");
        SidePonds x = gone(1, "pond a 1 99 999;pond b 1 0 0;pipe a b 5;turn 0 0 20;jam 100;");
        due.is("ran in the minute it jams", x.pond(1, 2), 5);
        due.is("jammed", x.pipe(0, 4) * 10 + x.pipe(0, 3), 10);
        due.is("none more", x.ahead(5, 0, 1), 5);
        due.is("would run all the same", x.runs(0, 0), 544);
        due.is("draw", x.draw(0, 1), -2);
        due.is("still", x.still(0, 0) * 10 + x.still(1, 1), 5);
        due.is("fewest", x.fewest(1, 6, 0), -2);
        due.is("reach", x.reach(0) * 10 + x.pass(0, 1), 10);
        due.is("mend", x.mend(0), true);
        due.is("open", x.pipe(0, 4) * 10 + x.pipe(0, 3), 1);
        due.is("more", x.ahead(5, 0, 1), 10);
        due.is("reach", x.reach(0) * 10 + x.pass(0, 1), 35);
    }

    // ---- (1) springs

    /** A pond of so much WATER, filled up from 999; it is the first one told. */
    private static SidePonds full(String text, int water) {
        SidePonds x = Due.told(text);
        for (int i = 0; i < 100 && x.pond(0, 2) < water; i++) {
            x.fill(0, Math.min(99, water - x.pond(0, 2)));
        }
        due.is("filled", x.pond(0, 2), water);
        return x;
    }

    /** 9999 at most; one that has more already keeps it. */
    private static void springs() {
        due.in("springs");
        for (int spring : new int[] {0, 1, 8, 9}) {
            for (int water = 9989; water <= 9999; water++) {
                SidePonds x = full("pond a 1 0 999;spring a " + spring + ";", water);
                due.is("ahead of " + water, x.ahead(1, 0, 0), Math.min(9999, water + spring));
                x.go(1);
                due.is("of " + water, x.pond(0, 2), Math.min(9999, water + spring));
                x.go(1);
                due.is("again of " + water, x.pond(0, 2), Math.min(9999, water + 2 * spring));
            }
            for (int water : new int[] {9999, 10000, 10001, 10005}) {
                SidePonds x = full("pond a 20 0 999;pond b 1 99 999;pipe b a 1;spring a " + spring + ";", 9990);
                x.draw(0, water - 9990);
                due.is("more", x.pond(0, 2), water);
                x.go(2);
                due.is("keeps it", x.pond(0, 2), water);
                due.is("keeps it", x.fill(0, 99), water);
            }
        }
        due.is("one ahead", full("pond a 1 0 999;", 9998).fill(0, 1), 9999);
        due.is("at it", full("pond a 1 0 999;", 9998).fill(0, 2), 9999);
        due.is("far behind", full("pond a 1 0 999;", 9901).fill(0, 99), 9999);
        due.is("just not", full("pond a 1 0 999;", 9899).fill(0, 99), 9998);
        due.is("each its own", both(3, "pond a 1 0 5;pond b 1 0 7;spring b 2;spring a 1;"), 80013);
    }

    // ---- (2) pipes

    /** No more than E of flow (put to 0 .. 99; WIDE without, with an ERROR). */
    private static void flow() {
        due.in("flow");
        String[] laws = {"98", "99", "100", "101", "9999", "1", "0", "0-1", "0-9999", "1/0", "1000*1000*1000*1000",
            "1000*1000*1000*1000+1", "0-1000*1000*1000*1000", "wide", "wide+1", "water/9-2"};
        int[] runs = {98, 99, 99, 99, 99, 1, 0, 0, 0, 7, 99, 7, 0, 7, 8, 98};
        for (int i = 0; i < laws.length; i++) {
            due.is(laws[i], both(1, PAIR + "law flow " + laws[i] + ";"), (900 - runs[i]) * 10000 + runs[i]);
        }
        due.is("without", both(1, PAIR), 8930007);
        due.is("wide 99", both(1, PAIR.replace("b 7", "b 99")), 8010099);
        due.is("wide 1", both(1, PAIR.replace("b 7", "b 1")), 8990001);
        due.is("no more than runs", both(1, PAIR.replace("900", "5")), 30002);
        due.is("not open", both(1, PAIR.replace("turn 0 0", "turn 0 1")), 9000000);
    }

    /** By numbers, of the one it runs from then; by each what the ones ahead left. */
    private static void pipesByNumbers() {
        due.in("pipes by numbers");
        String ponds = "pond a 1 0 80;pond b 1 0 0;pond c 1 0 0;turn";
        String turns = "turn 0 0 1;turn 1 0 1;";
        due.is("down", both(1, ponds.replace("turn", "") + "pipe a b 50;pipe b c 50;" + turns), 400020);
        due.is("up", both(1, ponds.replace("turn", "") + "pipe b c 50;pipe a b 50;" + turns), 400040);
        // b runs to a as soon as it has come to be higher
        due.is("then the other way", both(1, "pond a 1 0 80;pond b 1 50 0;pond c 1 0 0;pipe a b 50;pipe b c 9;" + turns), 650006);
        due.is("E of the pond it runs from", both(1, "pond a 2 5 80;pond b 1 0 0;pipe b a 50;turn 0 0 1;law flow area*10+floor;"), 550025);
        due.is("alike: none, whatever E", both(1, "pond a 1 0 8;pond b 1 0 8;pipe a b 50;turn 0 0 1;law flow 99;"), 80008);
    }

    /** What is told of the n-th number from a seed on. */
    private static int told(long seed, int n) {
        long last = seed;
        for (int i = 0; i < n; i++) {
            last = (last * 1103515245L + 12345L) % (1L << 31);
        }
        return (int) (last / 65536);
    }

    /** If a number modulo 100 is below jam, it is JAMMED; one number for each PIPE that is OPEN. */
    private static void jams() {
        due.in("jams");
        for (int seed : new int[] {0, 1, 2, 3, 50, 4711, 99998, 99999}) {
            int first = told(seed, 1) % 100;
            for (int jam = Math.max(1, first - 1); jam <= Math.min(99, first + 2); jam++) {
                int is = first < jam ? 1 : 0;
                due.is(seed + " by " + jam, gone(1, PAIR + "seed " + seed + ";jam " + jam + ";").pipe(0, 4), is);
            }
            // a second one in the same MINUTE by the next number, one that isn't OPEN by none
            String three = "pond a 1 0 90;pond b 1 0 0;pond c 1 0 0;pipe a b 1;pipe b c 1;pipe a c 1;turn 0 0 1;turn 2 0 1;"
                + "turn 1 1 1;seed " + seed + ";";
            for (int n = 2; n <= 3; n++) {
                int next = told(seed, n) % 100;
                for (int jam = Math.max(1, next - 1); jam <= Math.min(99, next + 2); jam++) {
                    int pipe = n == 2 ? 2 : 1;
                    SidePonds x = gone(n - 1, three + "jam " + jam + ";");
                    due.is(seed + ", number " + n + " by " + jam, x.pipe(pipe, 4), next < jam ? 1 : 0);
                }
            }
        }
    }

    /** Whether anything ran or not. */
    private static void jamsWithoutWater() {
        due.in("jams without water");
        for (String text : new String[] {"pond a 1 0 0;pond b 1 0 0;", "pond a 1 9 0;pond b 1 0 0;", "pond a 1 0 5;pond b 1 0 5;",
            "law flow 0;pond a 1 0 99;pond b 1 0 5;"}) {
            due.is("by 100", gone(1, text + "pipe a b 1;turn 0 0 1;jam 100;").pipe(0, 4), 1);
            due.is("ahead by 50", Due.told(text + "pipe a b 1;turn 0 0 1;jam 50;").ahead(1, 3, 0), 1);
            for (int seed = 0; seed < 20; seed++) {
                SidePonds x = gone(2, text + "pipe a b 1;turn 0 0 2;jam 30;seed " + seed + ";");
                due.is("by 30", x.pipe(0, 4), told(seed, 1) % 100 < 30 || told(seed, 2) % 100 < 30 ? 1 : 0);
            }
        }
    }

    /** jam 0 never, 100 always, 1 and 99 by numbers. */
    private static void jamEnds() {
        due.in("ends of jam");
        for (int seed = 0; seed < 200; seed += 7) {
            String text = PAIR + "seed " + seed + ";";
            due.is("0", gone(1, text + "jam 0;").pipe(0, 4), 0);
            due.is("none", gone(1, text).pipe(0, 4), 0);
            due.is("100", gone(1, text + "jam 100;").pipe(0, 4), 1);
            due.is("1", gone(1, text + "jam 1;").pipe(0, 4), told(seed, 1) % 100 == 0 ? 1 : 0);
            due.is("99", gone(1, text + "jam 99;").pipe(0, 4), told(seed, 1) % 100 == 99 ? 0 : 1);
        }
        for (int jam = 1; jam < 100; jam++) {
            // seed 0, if none is told: its first numbers are 0 and 68 of a hundred
            String turned = PAIR.replace("turn 0 0 1", "turn 0 0 2") + "jam " + jam + ";";
            SidePonds x = gone(1, turned);
            due.is("without a seed", x.mend(0), true);
            x.go(1);
            due.is("without a seed, then", x.pipe(0, 4), told(0, 2) % 100 < jam ? 1 : 0);
            due.is("as by seed 0", gone(2, turned).pipe(0, 4), gone(2, turned + "seed 0;").pipe(0, 4));
        }
        due.is("not open: not jammed", gone(5, PAIR.replace("turn 0 0 1", "turn 0 5 1") + "jam 100;").pipe(0, 4), 0);
    }

    /** Whole numbers below 2 to the 31: a long row of them, by which a PIPE jams or not. */
    private static void longRow() {
        due.in("a long row of numbers");
        for (int seed : new int[] {0, 99999}) {
            SidePonds x = Due.told("pond a 1 0 0;pond b 1 0 0;pipe a b 1;jam 50;seed " + seed + ";"
                + "turn 0 0 20;turn 0 20 20;turn 0 40 20;turn 0 60 20;turn 0 80 20;turn 0 99 20;");
            for (int minute = 0; minute < 119; minute++) {
                x.go(1);
                boolean is = told(seed, minute + 1) % 100 < 50;
                due.is("number " + (minute + 1), x.mend(0), is);
            }
        }
    }

    /** AS IT GOES, without numbers: a PIPE is JAMMED, if jam is 50 at least. */
    private static void asItGoes() {
        due.in("as it goes");
        for (int jam : new int[] {0, 1, 49, 50, 51, 99, 100}) {
            for (int seed = 0; seed < 5; seed++) {
                SidePonds x = Due.told(PAIR + "jam " + jam + ";seed " + seed + ";");
                due.is("jam " + jam, x.ahead(1, 3, 0), jam >= 50 ? 1 : 0);
                due.is("none goes by", x.ahead(0, 3, 0), 0);
                due.is("the same again", x.ahead(200, 3, 0), jam >= 50 ? 1 : 0);
                // and no number is taken by it
                x.go(1);
                due.is("by numbers", x.pipe(0, 4), jam == 100 || jam > 0 && told(seed, 1) % 100 < jam ? 1 : 0);
            }
        }
    }

    // ---- (3) leaks

    /** Less WATER by E of leak (put to 0 .. 99; 0 without, with an ERROR), 0 at least. */
    private static void leaks() {
        due.in("leaks");
        String[] laws = {"98", "99", "100", "9999", "1", "0", "0-1", "0-9999", "1/0", "1000*1000*1000*1000+1", "wide+5", "area*10"};
        int[] less = {98, 99, 99, 99, 1, 0, 0, 0, 0, 0, 5, 20};
        for (int i = 0; i < laws.length; i++) {
            due.is(laws[i], gone(1, "pond a 2 0 900;law leak " + laws[i] + ";").pond(0, 2), 900 - less[i]);
        }
        due.is("without", gone(9, "pond a 2 0 900;").pond(0, 2), 900);
        for (int water = 0; water < 8; water++) {
            due.is("0 at least", gone(1, "pond a 1 0 " + water + ";law leak 5;").pond(0, 2), Math.max(0, water - 5));
            due.is("0 at least", gone(2, "pond a 1 0 " + water + ";law leak 3;").pond(0, 2), Math.max(0, water - 6));
        }
        due.is("each by its own", both(1, "pond a 1 0 50;pond b 5 2 70;law leak area*10+floor;"), 400018);
        due.is("behind springs and pipes", both(1, "pond a 1 0 8;pond b 1 0 0;spring a 2;pipe a b 5;turn 0 0 1;law leak water;"), 0);
        due.is("of what is left", both(1, "pond a 1 0 8;pond b 1 0 0;spring a 2;pipe a b 4;turn 0 0 1;law leak water/3;"), 40003);
    }

    // ---- (4) boats

    private static int[] boats(SidePonds x) {
        int[] all = new int[x.count(4)];
        for (int boat = 0; boat < all.length; boat++) {
            all[boat] = x.boat(boat, 2) * 100 + x.boat(boat, 3);
        }
        return all;
    }

    private static void areBoats(String name, SidePonds x, int... stageAndWaited) {
        int[] all = boats(x);
        for (int boat = 0; boat < all.length; boat++) {
            due.is(name + ": boat " + boat, all[boat], stageAndWaited[boat]);
        }
    }

    /** From its MINUTE on: it comes IN, and WAITED. */
    private static void boatsFrom() {
        due.in("boats from their minute on");
        for (int from : new int[] {0, 1, 5, 98, 99}) {
            SidePonds x = Due.told("pond a 1 0 0;lock a 0 1;boat a " + from + ";");
            if (from > 0) {
                x.go(from - 1);
                areBoats("one ahead of " + from, x, 0);
                x.go(1);
            }
            areBoats("at " + from, x, 0);
            due.is("nobody", x.lock(0, 3), -2);
            x.go(1);
            areBoats("in " + from, x, 101);
            due.is("in", x.lock(0, 3), 0);
            x.go(1);
            areBoats("behind " + from, x, 102);
        }
        SidePonds y = gone(3, "pond a 1 9 0;lock a 0 1;boat a 2;");
        areBoats("too high, but it waits", y, 1);
        due.is("nobody is in", y.lock(0, 3), -2);
    }

    /** Its LEVEL is LOW at most. */
    private static void low() {
        due.in("low at most");
        for (int water = 5; water <= 9; water++) {
            SidePonds x = gone(1, "pond a 2 1 " + water + ";lock a 4 199;boat a 0;");
            areBoats(water + " of 6", x, water <= 6 ? 101 : 1);
            due.is("in", x.count(8), water <= 6 ? 1 : 0);
        }
        areBoats("low 0, dry", gone(1, "pond a 1 0 0;lock a 0 9;boat a 0;"), 101);
        areBoats("low 0, a drop", gone(1, "pond a 20 0 1;lock a 0 9;boat a 0;"), 1);
        areBoats("low 199", gone(1, "pond a 1 99 100;lock a 199 199;boat a 0;"), 200);
        areBoats("above 199", gone(1, "pond a 1 99 101;lock a 199 199;boat a 0;"), 1);
    }

    /** One that is IN (now, too) is UP, if the LEVEL is HIGH at least. */
    private static void high() {
        due.in("high at least");
        for (int water = 4; water <= 8; water++) {
            SidePonds x = gone(1, "pond a 2 1 " + water + ";lock a 199 4;boat a 0;law toll 7;");
            areBoats(water + " of 6", x, water >= 6 ? 200 : 101);
            due.is("toll", x.count(11), water >= 6 ? 7 : 0);
            due.is("who is in", x.lock(0, 3), water >= 6 ? -2 : 0);
            due.is("up when", Due.told("pond a 2 1 " + water + ";lock a 199 4;boat a 0;").upWhen(0), water >= 6 ? 1 : -2);
        }
        // it isn't UP if it isn't IN, however high
        areBoats("not in", gone(5, "pond a 2 1 9;lock a 4 4;boat a 0;"), 5);
        // IN by LOW, UP later; then LOW does not count any more
        SidePonds y = gone(1, "pond a 1 0 0;spring a 1;lock a 1 3;boat a 0;");
        areBoats("in", y, 101);
        y.go(1);
        areBoats("above low", y, 102);
        y.go(1);
        areBoats("up", y, 202);
        y.go(5);
        areBoats("waits no more", y, 202);
        areBoats("high 0", gone(1, "pond a 1 0 0;lock a 0 0;boat a 0;"), 200);
    }

    /** Comes IN, if none is IN that LOCK by then. */
    private static void oneInALock() {
        due.in("one in a lock");
        // the first goes UP in this MINUTE, so the second may come IN, and so on
        areBoats("all in one minute", gone(1, "pond a 1 0 5;lock a 5 5;boat a 0;boat a 0;boat a 0;"), 200, 200, 200);
        areBoats("one in", gone(1, "pond a 1 0 4;lock a 5 5;boat a 0;boat a 0;boat a 0;"), 101, 1, 1);
        // the first one waits while the second is IN, and it is UP too late for it
        SidePonds x = gone(1, "pond a 1 0 0;spring a 5;lock a 99 10;boat a 1;boat a 0;");
        areBoats("the second", x, 0, 101);
        due.is("in", x.lock(0, 3), 1);
        x.go(1);
        areBoats("the second is up", x, 1, 201);
        x.go(1);
        areBoats("the first in and up", x, 201, 201);
        // another LOCK's BOAT is no hindrance
        SidePonds y = gone(1, "pond a 1 0 0;pond b 1 0 0;lock a 0 1;lock b 0 1;boat a 0;boat b 0;boat a 0;");
        areBoats("two locks", y, 101, 101, 1);
        due.is("in", y.lock(0, 3) * 10 + y.lock(1, 3), 1);
        due.is("in", y.count(8), 2);
    }

    /** TOLL is more by E of toll (put to 0 .. 999; 1 without, with an ERROR). */
    private static void tolls() {
        due.in("tolls");
        String[] laws = {"998", "999", "1000", "9999", "1", "0", "0-1", "1/0", "1000*1000*1000*1000+1", "wide+3", "boats", "minute",
            "area*100+floor*10+water"};
        int[] tolls = {998, 999, 999, 999, 1, 0, 0, 1, 1, 3, 1, 0, 215};
        for (int i = 0; i < laws.length; i++) {
            due.is(laws[i], gone(1, "pond a 2 1 5;lock a 9 3;boat a 0;law toll " + laws[i] + ";").count(11), tolls[i]);
            due.is("ahead " + laws[i], Due.told("pond a 2 1 5;lock a 9 3;boat a 0;law toll " + laws[i] + ";").ahead(1, 4, 0), tolls[i]);
        }
        due.is("without", gone(1, "pond a 2 1 5;lock a 9 3;boat a 0;boat a 0;").count(11), 2);
        due.is("none up", gone(1, "pond a 2 1 3;lock a 9 3;boat a 0;law toll 5;").count(11), 0);
    }

    /** As E is worked out it counts as IN yet; then it is IN no more. */
    private static void tollOfBoatsIn() {
        due.in("toll by boats in");
        // two go UP one behind another: each is the only one IN by then
        due.is("one behind another", gone(1, "pond a 1 0 5;lock a 5 5;boat a 0;boat a 0;law toll boats;").count(11), 2);
        // one IN another LOCK counts, too
        String other = "pond a 1 0 5;pond b 1 0 0;lock a 5 5;lock b 0 9;";
        due.is("another ahead", gone(1, other + "boat b 0;boat a 0;law toll boats;").count(11), 2);
        due.is("another behind", gone(1, other + "boat a 0;boat b 0;law toll boats;").count(11), 1);
        due.is("none is in then", gone(1, other + "boat a 0;law toll boats;").count(8), 0);
    }

    /** One that isn't UP then, IN or not, from its MINUTE on, WAITED one MINUTE more. */
    private static void waited() {
        due.in("waited");
        SidePonds x = Due.told("pond a 1 0 0;spring a 1;lock a 2 4;boat a 1;boat a 1;boat a 3;");
        int[][] rows = {{0, 0, 0}, {101, 1, 0}, {102, 2, 0}, {202, 3, 1}, {202, 4, 2}};
        for (int minute = 0; minute < rows.length; minute++) {
            int waited = x.count(10);
            due.is("ahead", x.ahead(1, 2, 0), sum(rows[minute]) - waited);
            x.go(1);
            areBoats("minute " + minute, x, rows[minute]);
            due.is("by all", x.count(10), sum(rows[minute]));
        }
    }

    private static int sum(int[] boats) {
        int sum = 0;
        for (int boat : boats) {
            sum += boat % 100;
        }
        return sum;
    }

    /** Then it is the next MINUTE: in all steps it is still the one it was. */
    private static void theMinute() {
        due.in("the minute");
        SidePonds x = Due.told("pond a 1 50 900;pond b 1 0 0;pipe a b 9;turn 0 0 20;lock b 0 0;boat b 0;"
            + "law flow minute+1;law leak 10*minute;law toll minute+2;");
        due.is("flow", x.law(0, 0), 1);
        x.go(1);
        due.is("by minute 0", x.pond(0, 2) * 1000 + x.pond(1, 2), 899001);
        due.is("none up", x.count(9), 0);
        x.go(1);
        due.is("by minute 1", x.pond(0, 2) * 1000 + x.pond(1, 2), 887000);
        due.is("toll", x.count(11), 3);
        due.is("it is 2", x.count(6), 2);
    }

    /** (1) springs, (2) PIPES, (3) leaks, (4) BOATS, then the next MINUTE. */
    private static void steps() {
        due.in("steps of a minute");
        String pair = "pond a 1 0 8;pond b 1 0 0;pipe a b 9;turn 0 0 1;";
        due.is("springs ahead of pipes", both(1, pair + "spring a 2;"), 50005);
        due.is("springs of the other one, too", both(1, pair + "spring b 8;"), 80008);
        due.is("pipes ahead of leaks", both(1, pair + "law leak 1;"), 30003);
        due.is("pipes ahead of leaks", both(1, pair.replace("b 1 0 0", "b 1 0 2") + "law leak water;"), 0);
        SidePonds x = gone(1, "pond a 1 0 5;lock a 3 3;boat a 0;law leak 2;law toll water;");
        due.is("leaks ahead of boats", x.count(9) * 10 + x.count(11), 13);
        // a PIPE that RUNS counts as OPEN till it is JAMMED, the ones ahead of it do not any more
        String three = "pond a 1 50 90;pond b 1 0 0;pond c 1 0 0;pond d 1 0 0;pipe a b 9;pipe a c 9;pipe a d 9;"
            + "turn 0 0 1;turn 1 0 1;turn 2 0 1;law flow open;";
        SidePonds y = gone(1, three + "jam 100;");
        due.is("3, 2, 1", y.pond(1, 2) * 100 + y.pond(2, 2) * 10 + y.pond(3, 2), 321);
        due.is("3, 3, 3 as it goes", Due.told(three + "jam 49;").ahead(1, 0, 3), 3);
    }

    // ---- E

    private static long worth(String e) {
        return Due.told("pond a 3 4 5;law leak " + e + ";").law(1, 0);
    }

    /** ERROR: a value above 10 to the 12, or below 0 by more than that; / by 0. */
    private static void errors() {
        due.in("errors");
        String most = "1000*1000*1000*1000";
        long limit = 1000000000000L;
        String[] es = {most + "-1", most, most + "-1+1", most + "+0", most + "*1", most + "/1", most + "-1+2", most + "+1",
            "0-" + most + "+1", "0-" + most, "(0-" + most + ")*1", "0-" + most + "-1", "(0-" + most + ")-1", "1-" + most + "-2",
            "(" + most + ")-(" + most + ")", "(" + most + ")+(" + most + ")", "(" + most + ")*2", "2*(" + most + ")",
            "(" + most + ")*(" + most + ")", "(0-" + most + ")*(0-" + most + ")", "(0-" + most + ")*(0-1)", "(0-1)*(" + most + ")"};
        long[] values = {limit - 1, limit, limit, limit, limit, limit, ERROR, ERROR,
            1 - limit, -limit, -limit, ERROR, ERROR, ERROR,
            0, ERROR, ERROR, ERROR,
            ERROR, ERROR, limit, -limit};
        for (int i = 0; i < es.length; i++) {
            due.is(es[i], worth(es[i]), values[i]);
        }
        due.is("one more than fits", worth("1001*1000*1000*999"), 999999000000L);
        due.is("one more than fits", worth("1001*1000*1000*1000"), ERROR);
        String near = "9999*9999*9999+9999*9999*3+9999*3";
        due.is("one ahead of it", worth(near), limit - 1);
        due.is("at it", worth(near + "+1"), limit);
        due.is("behind it", worth(near + "+2"), ERROR);
        // products that wrap around to little in a long
        String of32 = "(8192*8)*(8192*8)";
        due.is("2 to the 32", worth(of32), 1L << 32);
        due.is("2 to the 64", worth("(" + of32 + ")*(" + of32 + ")"), ERROR);
        due.is("below by 2 to the 64", worth("(0-" + of32 + ")*(" + of32 + ")"), ERROR);
        due.is("2 to the 64 and 0", worth("((" + of32 + ")*(" + of32 + "))*0"), ERROR);
    }

    /** / is cut towards 0, ERROR by 0. */
    private static void over() {
        due.in("/");
        int[][] rows = {{7, 2}, {-7, 2}, {7, -2}, {-7, -2}, {1, 2}, {-1, 2}, {0, 5}, {0, -5}, {6, 3}, {-6, 3}, {5, 6}, {-5, 6}};
        for (int[] row : rows) {
            String e = "(0" + signed(row[0]) + ")/(0" + signed(row[1]) + ")";
            due.is(e, worth(e), row[0] / row[1]);
        }
        for (String e : new String[] {"1/0", "0/0", "5/(area-3)", "(0-5)/0", "1/(1/2)", "1 or 1/0", "0 and 1/0", "not 1/0", "1=1/0",
            "1/0*0", "0*(1/0)", "(1 or 1) or 1/0"}) {
            due.is(e, worth(e), ERROR);
        }
        due.is("by 1", worth("9999/1"), 9999);
    }

    private static String signed(int value) {
        return value < 0 ? "-" + -value : "+" + value;
    }

    /** Comparisons, and, or, not are 1 or 0; what isn't 0 is as 1. */
    private static void truths() {
        due.in("comparisons, and, or, not");
        String[] signs = {"<", "<=", "=", "<>", ">=", ">"};
        int[][] is = {{1, 0, 0}, {1, 1, 0}, {0, 1, 0}, {1, 0, 1}, {0, 1, 1}, {0, 0, 1}};
        for (int i = 0; i < signs.length; i++) {
            for (int more = -1; more <= 1; more++) {
                due.is(signs[i], worth((5 + more) + signs[i] + "5"), is[i][more + 1]);
                due.is(signs[i] + " below 0", worth("(0-" + (5 - more) + ")" + signs[i] + "(0-5)"), is[i][more + 1]);
            }
        }
        String[] values = {"0", "1", "2", "(0-1)", "9999"};
        for (String a : values) {
            due.is("not " + a, worth("not " + a), a.equals("0") ? 1 : 0);
            due.is("not not " + a, worth("not not " + a), a.equals("0") ? 0 : 1);
            for (String b : values) {
                due.is(a + " and " + b, worth(a + " and " + b), a.equals("0") || b.equals("0") ? 0 : 1);
                due.is(a + " or " + b, worth(a + " or " + b), a.equals("0") && b.equals("0") ? 0 : 1);
            }
        }
    }

    /** What binds closer, and from the left. */
    private static void order() {
        due.in("order of signs");
        String[] es = {"1 or 0 and 0", "0 and 0 or 1", "not 0 and 0", "not 0 or 1", "not (0 or 1)", "not 1 = 0", "(not 1) = 0", "1+1=2",
            "2-1-1", "2-(1-1)", "8/4/2", "8/(4/2)", "2+3*4", "2*3+4", "9-6/3", "2*7/4", "2*(7/4)", "7/2*2", "1<2 and 2<1", "5-3>1", "1-3<0",
            "0 or 0 or 2", "1 and 2 and 3", "not not 0"};
        long[] values = {1, 1, 0, 1, 0, 1, 1, 1, 0, 2, 1, 4, 14, 10, 7, 3, 2, 6, 0, 1, 1, 1, 1, 0};
        for (int i = 0; i < es.length; i++) {
            due.is(es[i], worth(es[i]), values[i]);
        }
    }

    /** NAMES as they are by then: area, floor, water, wide, open, boats, minute. */
    private static void names() {
        due.in("names");
        String[] names = {"area", "floor", "water", "wide", "open", "boats", "minute"};
        long[] flow = {2, 9, 80, 6, 2, 1, 1};
        long[] leak = {3, 1, 7, 0, 2, 1, 1};
        long[] toll = {3, 1, 7, 0, 2, 1, 1};
        for (int i = 0; i < names.length; i++) {
            SidePonds x = Due.told("pond a 2 9 80;pond b 3 1 7;pond c 1 0 0;pipe b a 6;pipe b c 1;pipe a c 1;turn 0 1 1;turn 2 1 1;"
                + "lock b 9 9;boat b 0;boat b 0;law flow " + names[i] + ";law leak " + names[i] + "+0*9999;law toll " + names[i] + ";");
            due.is("nobody yet", x.law(2, 0), i == 5 || i == 4 || i == 6 ? 0 : toll[i]);
            SidePonds y = Due.told("pond a 2 9 80;pond b 3 1 7;pond c 1 0 0;pipe b a 6;pipe b c 1;pipe a c 1;turn 0 1 1;turn 2 1 1;"
                + "lock b 9 9;boat b 0;boat b 0;law flow " + names[i] + ";law toll " + names[i] + ";");
            y.go(1);
            due.is("flow " + names[i], y.law(0, 0), flow[i]);
            due.is("toll " + names[i], y.law(2, 1), toll[i]);
            due.is("no leak", y.law(1, 1), ERROR);
            SidePonds z = Due.told("pond a 2 9 80;pond b 3 1 7;pond c 1 0 0;pipe b a 6;pipe b c 1;pipe a c 1;turn 0 1 1;turn 2 1 1;"
                + "lock b 9 9;boat b 0;boat b 0;law leak (" + names[i] + ")*(minute>0);");
            z.go(1);
            due.is("leak " + names[i], z.law(1, 1), leak[i]);
        }
        due.is("no such one", Due.told("pond a 1 0 0;law flow 1;").law(0, 0), ERROR);
        due.is("none open", Due.told(PAIR + "law flow open;").law(0, 0), 1);
    }

    public static void main(String[] args) {
        wholeMeasures();
        asItHas();
        alike();
        moreThanFull();
        wideByCall();
        turns();
        turnsAtOnce();
        jammed();
        springs();
        flow();
        pipesByNumbers();
        jams();
        jamsWithoutWater();
        jamEnds();
        longRow();
        asItGoes();
        leaks();
        boatsFrom();
        low();
        high();
        oneInALock();
        tolls();
        tollOfBoatsIn();
        waited();
        theMinute();
        steps();
        errors();
        over();
        truths();
        order();
        names();
        due.end();
    }
}
