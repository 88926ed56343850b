/**
 * The boundaries that parts 3 and 4 of the Terms and promises 18 to 46 name, a test for each sentence: at the boundary,
 * one before it, one behind it. What is refused is RefusedTest's.
 */
public final class AskEdgesTest {
    private static final Due due = new Due();
    private static final int NONE = SidePonds.NONE;
    private static final int MAX = Integer.MAX_VALUE;

    private static int fraction(int above, int below) {
        return above * 1000 + below;
    }

    // ---- what comes

    /** AHEAD: WATER, BOATS UP, JAMMED then; WAITED by all, TOLL more; for 0 MINUTES all as it is. */
    private static void ahead() {
        due.in("ahead");
        SidePonds x = Due.told("pond a 1 50 90;pond b 1 0 0;pipe a b 3;turn 0 1 1;turn 0 4 1;lock b 0 6;boat b 0;boat b 0;"
            + "jam 49;law toll 5;");
        int[] water = {0, 0, 3, 3, 3, 6, 6};
        int[] up = {0, 0, 0, 0, 0, 1, 1};
        int[] waited = {0, 2, 4, 6, 8, 9, 10};
        for (int n = 0; n < 7; n++) {
            due.is("water", x.ahead(n, 0, 1), water[n]);
            due.is("up", x.ahead(n, 1, 1), up[n]);
            due.is("waited", x.ahead(n, 2, 1), waited[n]);
            due.is("jammed", x.ahead(n, 3, 1), 0);
            due.is("toll", x.ahead(n, 4, 1), 5 * up[n]);
        }
        for (int gone = 1; gone < 7; gone++) {
            SidePonds y = Due.told("pond a 1 50 90;pond b 1 0 0;pipe a b 3;turn 0 1 1;turn 0 4 1;lock b 0 6;boat b 0;boat b 0;"
                + "law toll 5;");
            y.go(gone);
            due.is("water", y.ahead(6 - gone, 0, 1), 6);
            due.is("up in all", y.ahead(6 - gone, 1, 1), 1);
            due.is("waited more", y.ahead(6 - gone, 2, 1), 10 - waited[gone]);
            due.is("toll more", y.ahead(6 - gone, 4, 1), 5 - 5 * up[gone]);
            due.is("none goes by", y.count(6), gone);
        }
        SidePonds z = Due.told("pond a 1 0 0;pond b 1 0 0;pond c 1 0 0;pipe a b 1;pipe b c 1;turn 0 0 1;turn 1 99 1;jam 50;");
        due.is("jammed now and then", z.ahead(99, 3, 0) * 10 + z.ahead(100, 3, 0), 12);
        // what is JAMMED ahead of it counts, and stays
        z = Due.told("pond a 1 0 0;pond b 1 0 0;pipe a b 1;turn 0 0 1;jam 100;");
        z.go(1);
        due.is("jammed already", z.ahead(0, 3, 0) * 10 + z.ahead(200, 3, 0), 11);
        due.is("200", Due.told("pond a 1 0 0;spring a 1;").ahead(200, 0, 0), 200);
        due.is("199", Due.told("pond a 1 0 0;spring a 1;").ahead(199, 0, 0), 199);
    }

    /** UP WHEN: in how many MINUTES, 199 at most (0: it is). */
    private static void upWhen() {
        due.in("up when");
        String text = "pond a 1 0 0;spring a 1;lock a 0 199;law leak minute<1;boat a 0;boat a 0;";
        SidePonds x = Due.told(text);
        due.is("in 200", x.upWhen(0), -2);
        int[] whens = {199, 198, 197};
        for (int when : whens) {
            x.go(1);
            due.is("in " + when, x.upWhen(0), when);
            due.is("the second never", x.upWhen(1), -2);
        }
        x.go(196);
        due.is("in 1", x.upWhen(0), 1);
        x.go(1);
        due.is("is up", x.upWhen(0), 0);
        x.go(1);
        due.is("is up", x.upWhen(0), 0);
        // as it goes, not by numbers
        for (int jam : new int[] {0, 49, 50, 100}) {
            SidePonds y = Due.told("pond a 1 90 90;pond b 1 0 0;pipe a b 5;turn 0 1 20;lock b 0 10;boat b 0;jam " + jam + ";");
            due.is("jam " + jam, y.upWhen(0), jam < 50 ? 3 : -2);
        }
    }

    // ---- levels and heights

    /** JOINED: as high as all fills those whose FLOOR is lower; without WATER their lowest FLOOR. */
    private static void joined() {
        due.in("joined");
        int[][] right = {{2, 1}, {7, 3}, {8, 3}, {3, 1}, {10, 3}, {11, 3}, {4, 1}, {13, 3}, {14, 3}, {5, 1}, {26, 5}, {27, 5}, {28, 5},
            {29, 5}, {6, 1}};
        for (int water = 0; water < right.length; water++) {
            // areas 3 and 2, floors 2 and 5: b's FLOOR is reached by 9
            SidePonds x = Due.told("pond a 3 2 " + water + ";pond b 2 5 0;");
            due.is("of " + water, fraction(x.joined(3, 0), x.joined(3, 1)), fraction(right[water][0], right[water][1]));
            SidePonds y = Due.told("pond b 2 5 " + water + ";pond a 3 2 0;");
            due.is("in the other one " + water, fraction(y.joined(3, 0), y.joined(3, 1)), fraction(right[water][0], right[water][1]));
        }
        SidePonds dry = Due.told("pond a 3 7 0;pond b 2 4 0;pond c 9 4 0;pond d 1 0 0;");
        int[] lowest = {7, 4, 4, 4, 4, 4, 4, 0};
        for (int bits = 1; bits < 16; bits++) {
            due.is("dry " + bits, fraction(dry.joined(bits, 0), dry.joined(bits, 1)), fraction(bits > 7 ? 0 : lowest[bits - 1], 1));
        }
        SidePonds x = Due.told("pond a 20 99 999;pond b 20 99 999;pond c 20 99 999;pond d 20 99 999;pond e 20 99 999;pond f 20 99 999;"
            + "pond g 20 0 0;");
        due.is("g fills up to 99 by 1980 of 5994", fraction(x.joined(127, 0), x.joined(127, 1)), fraction(99 * 70 + 2007, 70));
        due.is("g alone", fraction(x.joined(64, 0), x.joined(64, 1)), fraction(0, 1));
        due.is("a and g", fraction(x.joined(65, 0), x.joined(65, 1)), fraction(999, 20));
        due.is("all but g", fraction(x.joined(63, 0), x.joined(63, 1)), fraction(2979, 20));
    }

    /** NEEDS: how much more WATER it needs so that its LEVEL is as high at least (0: none). */
    private static void needs() {
        due.in("needs");
        SidePonds x = Due.told("pond a 4 10 9;");
        int[][] rows = {{0, 0}, {9, 0}, {10, 0}, {11, 0}, {12, 0}, {13, 3}, {14, 7}, {998, 3943}, {999, 3947}};
        for (int[] row : rows) {
            due.is("for " + row[0], x.needs(0, row[0]), row[1]);
        }
        SidePonds y = Due.told("pond a 4 10 8;pond b 4 10 7;pond c 1 99 0;");
        due.is("just", y.needs(0, 12), 0);
        due.is("one short", y.needs(1, 12), 1);
        due.is("dry", y.needs(2, 98) * 100 + y.needs(2, 99) * 10 + y.needs(2, 100), 1);
    }

    /** SPARE: how much less it may have (all, if the height isn't above FLOOR; 0: none, it isn't so high). */
    private static void spare() {
        due.in("spare");
        SidePonds x = Due.told("pond a 4 10 9;");
        int[][] rows = {{0, 9}, {9, 9}, {10, 9}, {11, 5}, {12, 1}, {13, 0}, {14, 0}, {999, 0}};
        for (int[] row : rows) {
            due.is("for " + row[0], x.spare(0, row[0]), row[1]);
        }
        SidePonds y = Due.told("pond a 4 10 8;pond b 4 10 7;pond c 1 99 0;");
        due.is("just", y.spare(0, 12), 0);
        due.is("one more", Due.told("pond a 4 10 9;").spare(0, 12), 1);
        due.is("one short", y.spare(1, 12), 0);
        due.is("dry", y.spare(2, 98) + y.spare(2, 99) + y.spare(2, 100), 0);
    }

    /** LIFT: AREA times what HIGH is more than LOW (0 at least). */
    private static void lift() {
        due.in("lift");
        for (int high = 3; high < 8; high++) {
            due.is("high " + high, Due.told("pond a 6 0 0;lock a 5 " + high + ";").lift(0), Math.max(0, (high - 5) * 6));
        }
        due.is("most", Due.told("pond a 20 0 0;lock a 0 199;").lift(0), 3980);
        due.is("least", Due.told("pond a 20 0 0;lock a 199 0;").lift(0), 0);
    }

    /** LOCKFULS: how often its WATER has LIFT (999, if LIFT is 0). */
    private static void lockfuls() {
        due.in("lockfuls");
        int[] fulls = {0, 0, 0, 1, 1, 1, 2, 2};
        for (int water = 0; water < fulls.length; water++) {
            SidePonds x = Due.told("pond a 3 0 0;lock a 4 5;pond b 1 0 " + water + ";");
            due.is("of " + water, x.lockfuls(1, 0), fulls[water]);
        }
        SidePonds y = Due.told("pond a 1 0 999;lock a 4 5;pond b 1 0 0;lock b 5 5;");
        due.is("lift 1", y.lockfuls(0, 0), 999);
        due.is("lift 1", y.lockfuls(1, 0), 0);
        due.is("lift 0", y.lockfuls(0, 1) + y.lockfuls(1, 1), 1998);
        y.fill(0, 1);
        due.is("lift 1", y.lockfuls(0, 0), 1000);
    }

    // ---- openings

    /** FEWEST: how few (0 .. 4), the same PIPE again, too. */
    private static void fewest() {
        due.in("fewest");
        // 16 0 0: 8 8 0 by 0; 8 4 4 by 1; 6 6 4 by 0; 6 5 5 by 1
        SidePonds x = Due.told("pond a 1 0 16;pond b 1 0 0;pond c 1 0 0;pipe a b 1;pipe b c 1;");
        int[] few = {0, 2, 2, 2, 2, 4, -2};
        for (int height = 0; height < few.length; height++) {
            due.is("c at " + height, x.fewest(2, height, 0), few[height]);
            due.is("first for c at " + height, x.fewest(2, height, 1), height == 0 || height == 6 ? -2 : 0);
        }
        int[] fewB = {0, 1, 1, 1, 1, 1, 1, 1, 1, -2};
        for (int height = 0; height < fewB.length; height++) {
            due.is("b at " + height, x.fewest(1, height, 0), fewB[height]);
        }
        due.is("a", x.fewest(0, 16, 0) * 10 + x.fewest(0, 16, 1), -2);
        due.is("a", x.fewest(0, 17, 0), -2);
        // FIRST: of all rows of so many the first by numbers; 3 may begin, but 1 comes first
        SidePonds y = Due.told("pond a 1 0 0;pond b 1 0 8;pond c 1 0 0;pond d 1 0 8;pond e 1 0 2;pipe a c 1;pipe a b 1;pipe a e 1;pipe a d 1;");
        due.is("either", y.fewest(0, 4, 0) * 10 + y.fewest(0, 4, 1), 11);
        due.is("both", y.fewest(0, 6, 0) * 10 + y.fewest(0, 6, 1), 21);
        due.is("any", y.fewest(0, 1, 0) * 10 + y.fewest(0, 1, 1), 11);
        due.is("so high", y.fewest(0, 0, 0) * 10 + y.fewest(0, 0, 1), -2);
        due.is("without pipes", Due.told("pond a 1 0 5;").fewest(0, 5, 0), 0);
        due.is("without pipes", Due.told("pond a 1 0 5;").fewest(0, 6, 0), -2);
        due.is("without pipes", Due.told("pond a 1 0 5;").fewest(0, 6, 1), -2);
    }

    /** FIRST of a row whose first PIPE is the last one told. */
    private static void firstIsLast() {
        due.in("first");
        SidePonds x = Due.told("pond a 1 0 0;pond b 1 10 0;pond c 1 20 8;pipe a b 1;pipe b c 1;");
        due.is("two", x.fewest(0, 8, 0) * 10 + x.fewest(0, 8, 1), 21);
        due.is("one too high", x.fewest(0, 9, 0), -2);
        // a row of three by one of fewer first PIPES is no row of two
        SidePonds y = Due.told("pond a 1 0 0;pond b 1 50 3;pond c 1 50 3;pond d 1 50 7;pipe b a 1;pipe c a 1;pipe d a 1;");
        due.is("one", y.fewest(0, 7, 0) * 10 + y.fewest(0, 7, 1), 12);
        due.is("two", y.fewest(0, 10, 0) * 10 + y.fewest(0, 10, 1), 20);
        due.is("three", y.fewest(0, 13, 0) * 10 + y.fewest(0, 13, 1), 30);
        due.is("none", y.fewest(0, 14, 0), -2);
    }

    /** OPENINGS: PIPES that aren't JAMMED, in no TURN, whatever E of flow; four at most. */
    private static void openings() {
        due.in("openings");
        String five = "pond a 1 0 0;pond b 1 50 1;pond c 1 50 1;pond d 1 50 1;pond e 1 50 1;pond f 1 50 1;"
            + "pipe a b 1;pipe a c 1;pipe a d 1;pipe a e 1;pipe a f 1;law flow 0;";
        SidePonds x = Due.told(five);
        for (int height = 0; height <= 5; height++) {
            due.is("height " + height, x.fewest(0, height, 0), height < 5 ? height : -2);
            due.is("draws for " + height, x.draws(0, height, 5), height < 5 ? 0 : -2);
        }
        SidePonds y = Due.told(five + "turn 0 0 1;turn 2 0 1;jam 100;");
        y.go(1);
        for (int height = 0; height <= 4; height++) {
            due.is("jammed, height " + height, y.fewest(0, height, 0), height < 4 ? height : -2);
            due.is("first", y.fewest(0, height, 1), height == 0 || height == 4 ? -2 : 1);
            due.is("draws", y.draws(0, height, 5), height == 3 ? 1 : height < 3 ? 0 : -2);
        }
        y.mend(0);
        due.is("mended", y.fewest(0, 4, 0) * 10 + y.fewest(0, 4, 1), 40);
    }

    /** DRAWS: the least by which that one has less WATER then than now; 0, if it has no less, or the height is had already. */
    private static void draws() {
        due.in("draws");
        SidePonds x = Due.told("pond a 1 0 0;pond b 1 9 9;pond c 1 9 3;pipe a b 1;pipe a c 1;");
        // b first: 9, then c 1; c first: 3, then b 7
        int[] fromB = {0, 0, 0, 0, 7, 7, 7, 7, 7, 7, 7, -2};
        int[] fromC = {0, 0, 0, 0, 0, 0, 0, 0, 0, 0, 1, -2};
        for (int height = 0; height < fromB.length; height++) {
            due.is("from b for " + height, x.draws(0, height, 1), fromB[height]);
            due.is("from c for " + height, x.draws(0, height, 2), fromC[height]);
        }
        due.is("has more then", Due.told("pond a 1 0 5;pond b 1 0 0;pond c 1 0 9;pipe c b 1;pipe c a 1;").draws(0, 6, 1), 0);
        due.is("not by a fraction", Due.told("pond a 2 0 1;pond b 1 9 1;pipe a b 1;").draws(0, 1, 1), 1);
        due.is("not by a fraction", Due.told("pond a 2 0 0;pond b 1 9 1;pipe a b 1;").draws(0, 1, 1), -2);
    }

    // ---- how high, how far

    /** HIGHEST, LOWEST: the first of several. */
    private static void highest() {
        due.in("highest");
        due.is("alone", Due.told("pond a 1 0 0;").highest(0) + Due.told("pond a 1 0 0;").highest(1), 0);
        due.is("by one measure", Due.told("pond a 1 0 1;pond b 1 0 2;").highest(0), 1);
        due.is("by one measure", Due.told("pond a 1 0 2;pond b 1 0 1;").highest(1), 1);
        String[] texts = {"pond a 2 1 2;pond b 4 1 4;pond c 6 2 0;", "pond a 2 1 1;pond b 4 1 4;pond c 6 2 0;",
            "pond a 2 1 3;pond b 4 1 4;pond c 6 2 0;", "pond a 2 1 2;pond b 4 1 5;pond c 6 2 0;", "pond a 2 1 2;pond b 4 1 3;pond c 6 2 0;",
            "pond a 2 1 2;pond b 4 1 4;pond c 6 2 1;", "pond a 2 1 2;pond b 4 1 4;pond c 6 1 5;", "pond a 6 1 5;pond b 3 1 4;pond c 9 1 7;",
            "pond a 1 9 9;pond b 1 9 0;pond c 1 9 0;pond d 1 0 18;"};
        int[] right = {0, 10, 1, 10, 1, 20, 2, 12, 1};
        for (int i = 0; i < texts.length; i++) {
            SidePonds x = Due.told(texts[i]);
            due.is(texts[i], x.highest(0) * 10 + x.highest(1), right[i]);
        }
    }

    /** APART: in least terms, either way, 0 if alike. */
    private static void apart() {
        due.in("apart");
        for (int water = 4; water < 9; water++) {
            SidePonds x = Due.told("pond a 6 2 " + water + ";pond b 4 3 0;");
            int by = Math.abs(water - 6);
            int[] least = {0, 1, 1, 6, 1, 3};
            due.is("by " + by, fraction(x.apart(0, 1, 0), x.apart(0, 1, 1)), fraction(least[2 * by], least[2 * by + 1]));
            due.is("by " + by, fraction(x.apart(1, 0, 0), x.apart(1, 0, 1)), fraction(least[2 * by], least[2 * by + 1]));
            due.is("itself", fraction(x.apart(0, 0, 0), x.apart(0, 0, 1)), fraction(0, 1));
        }
        SidePonds y = Due.told("pond a 1 99 999;pond b 20 0 0;");
        due.is("most", fraction(y.apart(0, 1, 0), y.apart(0, 1, 1)), fraction(1098, 1));
        due.is("level of a dry one", fraction(y.level(1, 0), y.level(1, 1)), fraction(0, 1));
        due.is("level", fraction(y.level(0, 0), y.level(0, 1)), fraction(1098, 1));
    }

    /** STILL: how many ROUNDS till one by which nothing runs (not counted), 99 at most. */
    private static void still() {
        due.in("still");
        due.is("at once", Due.told("pond a 1 0 1;pond b 1 0 0;pipe a b 1;").still(0, 0), 0);
        due.is("one", Due.told("pond a 1 0 2;pond b 1 0 0;pipe a b 1;").still(0, 0), 1);
        due.is("without pipes", Due.told("pond a 1 0 2;").still(0, 0), 0);
        String slow = "pond a 19 0 385;pond b 1 86 834;pond c 2 0 747;pond d 19 70 0;pipe c d 1;pipe b c 1;pipe a b 1;";
        int all = 0;
        SidePonds x = Due.told(slow);
        int lastRan = 1;
        while (all < 1000 && lastRan > 0) {
            lastRan = x.draw(0, 999) + x.draw(1, 999) + x.draw(2, 999);
            all += lastRan > 0 ? 1 : 0;
        }
        due.is("more than 99", all > 101 && all < 999, true);
        for (int left = 102; left >= 96; left--) {
            SidePonds y = Due.told(slow);
            for (int i = 0; i < all - left; i++) {
                y.draw(0, 999);
                y.draw(1, 999);
                y.draw(2, 999);
            }
            due.is(left + " left", y.still(0, 0), Math.min(99, left));
            for (int pond = 0; pond < 4 && left <= 99; pond++) {
                due.is("water then", y.still(1, pond), x.pond(pond, 2));
            }
        }
    }

    // ---- ways

    /** REACH: it as well, and any number of PIPES on. */
    private static void reach() {
        due.in("reach");
        String ponds = "pond a 1 0 0;pond b 1 0 0;pond c 1 0 0;pond d 1 0 0;pond e 1 0 0;pond f 1 0 0;pond g 1 0 0;";
        String chain = "pipe g f 1;pipe e f 1;pipe e d 1;pipe c d 1;pipe c b 1;pipe a b 1;";
        for (int pond = 0; pond < 7; pond++) {
            due.is("alone", Due.told(ponds).reach(pond), 1 << pond);
            due.is("the whole chain", Due.told(ponds + chain).reach(pond), 127);
            due.is("backwards", Due.told(ponds + "pipe a b 1;pipe b c 1;pipe c d 1;pipe d e 1;pipe e f 1;pipe f g 1;").reach(pond), 127);
        }
        // each PIPE of the chain JAMMED in turn
        for (int pipe = 0; pipe < 6; pipe++) {
            SidePonds x = Due.told(ponds + chain + "turn " + pipe + " 0 1;jam 100;");
            x.go(1);
            int behind = 6 - pipe;
            due.is("this side", x.reach(0), (1 << behind) - 1);
            due.is("that side", x.reach(6), 127 & -(1 << behind));
            due.is("pass", x.pass(0, 6), 0);
            due.is("pass", x.pass(0, behind - 1 == 0 ? 6 : behind - 1), behind == 1 ? 0 : 1);
        }
    }

    /** PASS: each PIPE WIDE at most one way or the other one, nothing staying between. */
    private static void pass() {
        due.in("pass");
        SidePonds x = Due.told("pond a 1 0 0;pond b 1 0 0;pond c 1 0 0;pond d 1 0 0;pipe b a 5;pipe a c 4;pipe b d 3;pipe d c 6;pipe c b 9;");
        int[][] right = {{0, 9, 9, 9}, {9, 0, 16, 9}, {9, 16, 0, 9}, {9, 9, 9, 0}};
        for (int from = 0; from < 4; from++) {
            for (int to = 0; to < 4; to++) {
                due.is(from + " to " + to, x.pass(from, to), from == to ? NONE : right[from][to]);
            }
        }
        due.is("nowhere", Due.told("pond a 1 0 0;pond b 1 0 0;").pass(0, 1), 0);
        due.is("wide 99", Due.told("pond a 1 0 0;pond b 1 0 0;pipe b a 99;").pass(0, 1), 99);
        due.is("whatever E of flow", Due.told("pond a 1 0 0;pond b 1 0 0;pipe b a 99;law flow 0;").pass(0, 1), 99);
        // four of 99 lead out of a
        SidePonds most = Due.told("pond a 1 0 0;pond b 1 0 0;pond c 1 0 0;pond d 1 0 0;pond e 1 0 0;pipe a b 99;pipe a c 99;pipe a d 99;"
            + "pipe a e 99;pipe b c 99;pipe b d 99;pipe b e 99;pipe c d 99;pipe c e 99;pipe d e 99;");
        due.is("most", most.pass(0, 4), 396);
        // the ends of a chain of seven, whichever is narrow
        for (int narrow = 0; narrow < 6; narrow++) {
            StringBuilder b = new StringBuilder();
            for (int i = 0; i < 7; i++) {
                b.append("pond ").append((char) ('a' + i)).append(" 1 0 0;");
            }
            for (int i = 0; i < 6; i++) {
                b.append("pipe ").append((char) ('a' + i)).append(' ').append((char) ('b' + i)).append(i == narrow ? " 3;" : " 50;");
            }
            SidePonds chain = Due.told(b.toString());
            due.is("ends", chain.pass(0, 6) * 10 + chain.pass(6, 0), 33);
            due.is("this side", chain.pass(0, narrow + 1), 3);
        }
    }

    // ---- games

    /** GAME: who makes its LEVEL lower than the height, loses, who can't draw, too; it is so already: nobody wins. */
    private static void game() {
        due.in("game");
        int[] wins = {2, 1, 0, 0, 0, 1, 0, 0, 0, 1};
        int[] first = {-2, -2, 1, 2, 3, -2, 1, 2, 3, -2};
        for (int over = -1; over < 9; over++) {
            SidePonds x = Due.told("pond a 3 2 " + (6 + over) + ";pond b 3 2 " + Math.max(0, over) + ";");
            due.is(over + " over", x.game(0, 4, 0), wins[over + 1]);
            due.is(over + " over, first", x.game(0, 4, 1), first[over + 1]);
            if (over >= 0) {
                due.is(over + " in all", x.game(1, 2, 0), wins[over + 1]);
                due.is(over + " in all, below the floor", x.game(1, 0, 1), first[over + 1]);
            }
        }
        SidePonds y = Due.told("pond a 3 2 0;pond b 3 2 999;");
        due.is("dry", y.game(0, 2, 0) * 10 + y.game(0, 3, 0), 12);
        due.is("999", y.game(1, 2, 0) * 10 + y.game(1, 2, 1), 3);
        due.is("999 above 335", y.game(1, 335, 0) * 10 + y.game(1, 336, 0), 12);
        due.is("999 above 999", y.game(1, 999, 0), 2);
    }

    /** KEEPERS: WATER by 10, by 10 and 2, by 20, each cut; a REST: neither would have more otherwise. */
    private static void rests() {
        due.in("rests");
        int[] waters = {0, 1, 9, 10, 19, 20, 21, 29, 30, 31, 32, 39, 40, 41, 49, 50, 99, 100, 399, 400, 999};
        for (int one : waters) {
            for (int other : waters) {
                SidePonds x = Due.told("pond a 1 0 " + one + ";pond b 2 5 " + other + ";");
                int found = 0;
                for (int rest : new int[] {0, 1, 10, 11}) {
                    if (isRest(one, other, rest)) {
                        due.is(one + ", " + other + ": " + rest, x.rest(0, 1, found), rest);
                        found++;
                    }
                }
                due.is(one + ", " + other, x.rests(0, 1), found);
                due.is("no more", x.rest(0, 1, found), -2);
                due.is("no more", x.rest(0, 1, MAX), -2);
            }
        }
        // both shut is a REST if each has 20 at least; one open alone, if shut it had 1 at most (less than 40)
        int[][] counts = {{0, 0, 2}, {19, 19, 2}, {20, 19, 2}, {19, 20, 2}, {20, 20, 3}, {39, 39, 3}, {40, 39, 2}, {39, 40, 2}, {40, 40, 1}};
        for (int[] row : counts) {
            due.is("worked out by hand", Due.told("pond a 1 0 " + row[0] + ";pond b 1 0 " + row[1] + ";").rests(0, 1), row[2]);
        }
    }

    /** By the tables of the document: what each has of (0, 0), (0, 1), (1, 0), (1, 1). */
    private static boolean isRest(int one, int other, int rest) {
        int[][] mine = {{other / 10, 1}, {one / 10 + 2, one / 20}};
        int[][] yours = {{one / 10, other / 10 + 2}, {1, other / 20}};
        int i = rest / 10;
        int k = rest % 10;
        return mine[1 - i][k] <= mine[i][k] && yours[i][1 - k] <= yours[i][k];
    }

    /** HOLDS for n 0 .. 6, in least terms; jam 0 and 100. */
    private static void holds() {
        due.in("holds");
        long[] above = {1, 1, 1, 1, 1, 1, 1};
        for (int jam : new int[] {0, 1, 50, 99, 100}) {
            SidePonds x = Due.told("jam " + jam + ";");
            long power = 1;
            long hundred = 1;
            for (int n = 0; n <= 6; n++) {
                long a = jam == 0 ? 1 : jam == 1 ? power : jam == 100 && n > 0 ? 0 : above[n];
                long b = jam == 0 || jam == 100 ? 1 : jam == 50 ? 1L << n : hundred;
                due.is("jam " + jam + ", n " + n, x.holds(n, 0), a);
                due.is("jam " + jam + ", n " + n + " below", x.holds(n, 1), b);
                power *= 99;
                hundred *= 100;
            }
        }
        due.is("without ponds", new SidePonds().holds(6, 0), 1);
    }

    // ---- facts

    /** A POND had WATER 0 .. 9999 at least, or less, behind so many MINUTES 1 .. 60. */
    private static void facts() {
        due.in("facts");
        // by leak k behind n MINUTES 999 - k n
        for (int minutes : new int[] {1, 2, 59, 60}) {
            for (int water : new int[] {0, 1, 999 - 5 * minutes - 1, 999 - 5 * minutes, 999 - 5 * minutes + 1, 999, 1000, 9999}) {
                int atLeast = 0;
                for (int leak = 0; leak < 10; leak++) {
                    atLeast |= 999 - leak * minutes >= water ? 1 << leak : 0;
                }
                SidePonds x = Due.told("pond a 1 0 999;law leak 5;");
                x.see(minutes, 0, water, true);
                due.is("at least " + water + " behind " + minutes, x.leaks(0), atLeast);
                SidePonds y = Due.told("pond a 1 0 999;law leak 5;");
                y.see(minutes, 0, water, false);
                due.is("less than " + water + " behind " + minutes, y.leaks(0), 1023 & ~atLeast);
                // of another POND it says all or nothing, as E of leak stays
                SidePonds z = Due.told("pond b 1 0 0;pond a 1 0 999;law leak 5;");
                z.see(minutes, 1, water, true);
                due.is("of another one", z.leaks(0), (atLeast >> 5 & 1) * 1023);
            }
        }
    }

    /** Nothing done by call, as it goes, from the TEXT on; not by numbers. */
    private static void fromTheText() {
        due.in("from the text on");
        SidePonds x = Due.told("pond a 1 50 100;pond b 20 0 0;pipe a b 9;turn 0 0 20;jam 49;seed 1;law leak 1;");
        x.go(9);
        x.fill(1, 99);
        x.see(2, 1, 12, true);
        due.is("9 - k, then 18 - 2 k", x.leaks(1), 0b1111);
        x.see(10, 1, 90, true);
        due.is("never jams: 90 - 10 k", x.leaks(1), 1);
        SidePonds y = Due.told("pond a 1 50 100;pond b 1 0 0;pipe a b 9;turn 0 0 20;jam 50;seed 1;law leak 1;");
        y.see(2, 1, 1, true);
        due.is("jams in the first: 9 - 2 k", y.leaks(1), 0b11111);
        due.is("ask", y.ask(1, 0) * 100 + y.ask(1, 1), 101);
    }

    /** KNOWN by n: the first n that aren't STRUCK by one of these; what strikes may be STRUCK, asked from the last one on. */
    private static void known() {
        due.in("known");
        SidePonds x = Due.told("pond a 1 0 50;");
        due.is("0: at most 4", x.see(1, 0, 46, true), 0);
        due.is("1: at least 2", x.see(1, 0, 49, false), 1);
        due.is("2 strikes 0", x.strike(0), 2);
        due.is("3 strikes 1", x.strike(1), 3);
        due.is("4 strikes 2", x.strike(2), 4);
        due.is("5 strikes 4", x.strike(4), 5);
        due.is("6: at most 7", x.see(1, 0, 43, true), 6);
        due.is("7 strikes 6", x.strike(6), 7);
        due.is("8 strikes 7", x.strike(7), 8);
        int all = 0b1111111111;
        int least2 = 0b1111111100;
        int[] right = {all, 0b11111, 0b11100, least2, all, 0b11111, all, 0b11111111, all, 0b11111111};
        for (int n = 0; n <= 9; n++) {
            due.is("by " + n, x.known(n), true);
            due.is("leaks by " + n, x.leaks(0), right[n]);
            due.is("count by " + n, x.count(14), n);
        }
        due.is("by all", x.known(-1), true);
        due.is("leaks by all", x.leaks(0), right[9]);
        due.is("by 10", x.known(10), false);
        due.is("by all yet", x.count(14), 9);
        x.strike(8);
        due.is("by all that come", x.leaks(0), all);
        due.is("by 10", x.known(10), true);
        x.strike(9);
        due.is("not by one that comes", x.leaks(0), all);
        due.is("by 10 yet", x.count(14) * 100 + x.count(13), 1011);
        x.known(-1);
        due.is("by all", x.leaks(0), 0b11111111);
        // a new TEXT: no FACTS, all KNOWN
        x.known(2);
        Due.tell(x, "pond a 1 0 50;");
        due.is("none", x.count(13) * 10 + x.count(14), 0);
        due.is("none", x.leaks(0), all);
        due.is("from 0 on", x.see(1, 0, 46, true), 0);
        due.is("all known", x.count(14), 1);
        due.is("all known", x.leaks(0), 0b11111);
    }

    /** At most 24, those that strike, too; the last of them counts. */
    private static void twentyFour() {
        due.in("24 facts");
        SidePonds x = Due.told("pond a 1 0 90;");
        for (int i = 0; i < 22; i++) {
            due.is("see", x.see(1 + i, 0, 0, true), i);
        }
        due.is("22", x.see(60, 0, 0, true), 22);
        due.is("leaks", x.leaks(0), 1023);
        due.is("23", x.see(1, 0, 85, true), 23);
        due.is("leaks", x.leaks(0), 0b111111);
        due.is("24", x.see(1, 0, 86, true), NONE);
        due.is("24", x.strike(23), NONE);
        due.is("leaks", x.leaks(0), 0b111111);
        due.is("by 23", x.known(23), true);
        due.is("leaks", x.leaks(0), 1023);
        due.is("by 24", x.known(24), true);
        due.is("leaks", x.leaks(0), 0b111111);
        due.is("count", x.count(13) * 100 + x.count(14), 2424);
        SidePonds y = Due.told("pond a 1 0 90;");
        y.see(1, 0, 85, true);
        for (int i = 1; i < 24; i++) {
            due.is("strike", y.strike(i - 1), i);
            due.is("leaks", y.leaks(0), i % 2 == 1 ? 1023 : 0b111111);
        }
        due.is("25th", y.strike(23), NONE);
    }

    /** ASK: behind how many MINUTES, the first of several; if there are none: 1, none left. */
    private static void ask() {
        due.in("ask");
        // water w, dry: leaks k and m are told apart as long as both leave some
        int[][] right = {{0, 1, 10}, {1, 1, 9}, {2, 1, 8}, {8, 1, 2}, {9, 1, 1}, {10, 1, 1}, {999, 1, 1}};
        for (int[] row : right) {
            SidePonds x = Due.told("pond a 1 0 " + row[0] + ";");
            due.is("of " + row[0], x.ask(0, 0) * 100 + x.ask(0, 1), row[1] * 100 + row[2]);
        }
        // from MINUTE n on only it has WATER: the first of several is n + 1
        for (int n : new int[] {0, 1, 58, 59, 60}) {
            SidePonds x = Due.told("pond a 1 0 0;pond b 1 99 999;pipe b a 9;turn 0 " + n + " 20;");
            due.is("from " + n, x.ask(0, 0) * 100 + x.ask(0, 1), n < 60 ? (n + 1) * 100 + 1 : 110);
        }
        SidePonds y = Due.told("pond a 1 0 20;");
        y.see(1, 0, 17, true);
        due.is("of 0 .. 3", y.ask(0, 1), 1);
        y.see(1, 0, 17, false);
        due.is("none left", y.ask(0, 0) * 100 + y.ask(0, 1), 100);
        y.known(1);
        due.is("by 1", y.ask(0, 0) * 100 + y.ask(0, 1), 101);
        y.known(-1);
        y.strike(1);
        due.is("struck", y.ask(0, 0) * 100 + y.ask(0, 1), 101);
        // two of three are alike: 0 is told apart, 8 and 9 leave none behind one MINUTE
        SidePonds z = Due.told("pond a 1 0 8;law leak 3;");
        z.see(1, 0, 1, false);
        due.is("8 or 9", z.leaks(0), 0b1100000000);
        due.is("not to be told apart", z.ask(0, 0) * 100 + z.ask(0, 1), 102);
    }

    /** LEAKS in place of E of leak of that one: others leak by E, also if there is no law. */
    private static void leaksOfOne() {
        due.in("leaks of one");
        SidePonds x = Due.told("pond a 1 0 50;pond b 1 0 50;");
        x.see(5, 1, 50, true);
        due.is("b never leaks", x.leaks(0), 1023);
        due.is("b leaks not", x.leaks(1), 1);
        x.see(5, 0, 50, false);
        due.is("a leaks, b not", x.leaks(0), 0b1111111110);
        due.is("a leaks by none", x.leaks(1), 0);
    }

    // ---- chance, tried

    /** CHANCE: ten times drawn, numbers one behind another; n 1 .. 99. */
    private static void chance() {
        due.in("chance");
        String text = "pond a 1 0 0;pond b 1 0 0;pond c 1 0 0;pipe a b 1;pipe b c 1;turn 0 0 1;turn 1 98 1;jam ";
        for (int jam : new int[] {0, 1, 30, 49, 50, 70, 99, 100}) {
            SidePonds x = Due.told(text + jam + ";");
            for (int seed : new int[] {0, 1, 2, 99999, 100000, MAX - 1, MAX}) {
                // one number a time behind 1 and behind 98, two behind 99
                int[] times = new int[3];
                long one = seed;
                long two = seed;
                for (int time = 0; time < 10; time++) {
                    one = next(one);
                    times[0] += one / 65536 % 100 < jam ? 1 : 0;
                    two = next(two);
                    times[1] += two / 65536 % 100 < jam ? 1 : 0;
                    two = next(two);
                    times[2] += two / 65536 % 100 < jam ? 1 : 0;
                }
                due.is("first by 1", x.chance(seed, 1, 0), times[0]);
                due.is("first by 98", x.chance(seed, 98, 0), times[0]);
                due.is("second by 98", x.chance(seed, 98, 1), 0);
                due.is("first by 99", x.chance(seed, 99, 0), times[1]);
                due.is("second by 99", x.chance(seed, 99, 1), times[2]);
            }
        }
    }

    private static long next(long last) {
        return (last * 1103515245L + 12345L) % (1L << 31);
    }

    private static final String TRY = "pond a 1 90 90;pond b 1 0 0;pipe a b 5;lock b 0 10;boat b 0;turn 0 1 2;";

    private static void tries(String name, String text, int n, int... up) {
        SidePonds x = Due.told(text);
        for (int what = 0; what < 5; what++) {
            due.is(name + " " + what, x.tried(what, 0, n), up[what]);
        }
        due.is(name + " as it goes", x.ahead(n, 1, 0), up[5]);
    }

    /** TRIED: 0 nothing jams, 1 nothing leaks, 2 PIPE i is never OPEN, 3 no springs, 4 all are OPEN. */
    private static void tried() {
        due.in("tried");
        tries("by 2", TRY, 2, 0, 0, 0, 0, 0, 0);
        tries("by 3", TRY, 3, 1, 1, 0, 1, 0, 1);
        tries("by 200", TRY, 200, 1, 1, 0, 1, 0, 1);
        tries("by none", TRY.replace("lock b 0", "lock b 9"), 0, 0, 0, 0, 0, 0, 0);
        tries("jams", TRY + "jam 50;", 5, 1, 0, 0, 0, 0, 0);
        for (int seed = 0; seed < 9; seed++) {
            tries("never jams, seed " + seed, TRY + "jam 49;seed " + seed + ";", 5, 1, 1, 0, 1, 0, 1);
            tries("jams, seed " + seed, TRY + "jam 51;seed " + seed + ";", 5, 1, 0, 0, 0, 0, 0);
        }
        tries("leaks", TRY + "law leak 1;", 5, 0, 1, 0, 0, 0, 0);
        tries("leaks, low 5", TRY.replace("lock b 0", "lock b 5") + "law leak 1;", 3, 0, 1, 0, 0, 1, 0);
        tries("low 5", TRY.replace("lock b 0", "lock b 5"), 2, 0, 0, 0, 0, 1, 0);
        tries("springs", TRY.replace("turn 0 1 2;", "") + "spring b 1;law leak minute<1;", 11, 1, 0, 1, 0, 0, 1);
        tries("springs, one less", TRY.replace("turn 0 1 2;", "") + "spring b 1;law leak minute<1;", 10, 0, 0, 0, 0, 0, 0);
        SidePonds two = Due.told("pond c 1 90 90;" + TRY + "pipe c b 5;turn 1 1 1;");
        due.is("by the other one alone", two.tried(2, 0, 9) * 10 + two.tried(2, 1, 9), 1);
        due.is("as it goes", two.ahead(2, 1, 0) * 10 + two.tried(2, 1, 3), 11);
    }

    /** What is JAMMED stays so (0, 2); it is OPEN all the same (4), in all MINUTES. */
    private static void triedJammed() {
        due.in("tried with jams");
        SidePonds x = Due.told(TRY.replace("lock b 0", "lock b 5") + "jam 100;");
        x.go(2);
        due.is("ran once", x.pond(1, 2), 5);
        due.is("jammed", x.count(12), 1);
        due.is("in", x.boat(0, 2), 1);
        for (int what = 0; what < 4; what++) {
            due.is("stays so " + what, x.tried(what, 0, 20), 0);
        }
        due.is("open all the same", x.tried(4, 0, 1), 1);
        due.is("by none", x.tried(4, 0, 0), 0);
        x.mend(0);
        due.is("mended, jams behind its turn", x.tried(0, 0, 1) * 10 + x.tried(1, 0, 1), 11);
        // NAME open tells of all that are OPEN then
        SidePonds y = Due.told("pond a 1 90 90;pond b 1 0 0;pond c 1 0 0;pipe a b 5;pipe b c 1;lock b 0 1;boat b 0;law flow open;");
        due.is("as it goes", y.ahead(1, 1, 0), 0);
        due.is("2 in, 1 on: not low enough, not in", y.tried(4, 0, 9), 0);
        SidePonds z = Due.told("pond a 1 90 90;pond b 1 0 0;pond c 1 2 0;pipe a b 5;pipe c b 1;lock b 2 2;boat b 0;law flow open;");
        due.is("just 2 of both", z.tried(4, 0, 1), 1);
        due.is("each of them", Due.told("pond c 1 0 0;pond d 1 0 0;" + TRY.replace("turn 0 1 2;", "").replace("lock b 0", "lock b 5")
            + "pipe c d 1;").tried(4, 0, 2), 1);
        due.is("each of them", Due.told("pond c 1 0 0;pond d 1 0 0;pipe c d 1;" + TRY.replace("turn 0 1 2;", "")
            .replace("lock b 0", "lock b 5")).tried(4, 0, 2), 1);
        due.is("turns do not matter", Due.told(TRY.replace("lock b 0", "lock b 5").replace("turn 0 1 2;", "")).tried(4, 0, 2), 1);
        due.is("nor the last minutes", late(TRY.replace("lock b 0", "lock b 5")).tried(4, 0, 1), 1);
    }

    private static SidePonds late(String text) {
        SidePonds x = Due.told(text);
        for (int i = 0; i < 49; i++) {
            x.go(200);
        }
        return x;
    }

    // ---- undoing, images

    /** The latest first, 20 at most. */
    private static void undo() {
        due.in("undo");
        for (int calls : new int[] {0, 1, 19, 20, 21, 39, 40, 41}) {
            SidePonds x = Due.told("pond a 1 0 0;");
            for (int i = 0; i < calls; i++) {
                x.fill(0, i + 1);
            }
            int held = Math.min(20, calls);
            due.is("behind " + calls, x.count(15), held);
            for (int i = 0; i < held; i++) {
                due.is("undo " + i + " of " + calls, x.undo(), held - 1 - i);
                int left = calls - 1 - i;
                due.is("water", x.pond(0, 2), left * (left + 1) / 2);
            }
            due.is("none", x.undo(), NONE);
            due.is("water stays", x.pond(0, 2), (calls - held) * (calls - held + 1) / 2);
            due.is("none", x.count(15), 0);
            // and again as many
            x.fill(0, 5);
            due.is("one", x.undo(), 0);
        }
    }

    /** Drawing (also of 0), filling, spilling, mending; not what is refused. */
    private static void whatCanBeUndone() {
        due.in("what can be undone");
        SidePonds x = Due.told("pond a 1 0 9;pond b 1 0 9;pond c 1 50 9;pipe a b 1;pipe b c 9;turn 0 0 1;jam 100;");
        x.go(1);
        due.is("mend", x.mend(0), true);
        due.is("draw of 0", x.draw(0, 5), 0);
        due.is("draw", x.draw(1, 5), 5);
        due.is("fill", x.fill(0, 1), 10);
        due.is("spill", x.spill(2, 4), 0);
        x.mend(0);
        x.mend(1);
        x.draw(1, 0);
        x.draw(2, 5);
        x.fill(0, 100);
        x.spill(2, 1);
        x.go(201);
        x.text(1);
        due.is("five", x.count(15), 5);
        int[] left = {4, 3, 2, 1, 0};
        int[] water = {1014004, 914004, 909009, 909009, 909009};
        for (int i = 0; i < 5; i++) {
            due.is("undo", x.undo(), left[i]);
            due.is("water", x.pond(0, 2) * 100000 + x.pond(1, 2) * 1000 + x.pond(2, 2), water[i]);
            due.is("jammed", x.pipe(0, 4), i == 4 ? 1 : 0);
        }
        due.is("none", x.undo(), NONE);
    }

    /** If no MINUTE went by since. */
    private static void minuteWentBy() {
        due.in("a minute went by");
        for (int n = 0; n <= 2; n++) {
            SidePonds x = Due.told("pond a 1 0 5;");
            x.fill(0, 5);
            x.fill(0, 7);
            x.go(n);
            due.is("behind go of " + n, x.count(15), n == 0 ? 2 : 0);
            due.is("undo", x.undo(), n == 0 ? 1 : NONE);
            due.is("water", x.pond(0, 2), n == 0 ? 10 : 17);
        }
        SidePonds y = Due.told("pond a 1 0 5;");
        y.fill(0, 5);
        y.keep();
        y.ahead(9, 0, 0);
        y.tried(0, 0, 9);
        y.ask(0, 0);
        due.is("asking is none", y.count(15), 1);
        y.go(1);
        y.fill(0, 2);
        due.is("since", y.undo(), 0);
        due.is("water", y.pond(0, 2), 10);
    }

    /** undo is of WATER and what is JAMMED alone; and a row of them goes round. */
    private static void undoneAgain() {
        due.in("undone again");
        SidePonds x = Due.told("pond a 1 0 500;pond b 1 0 0;pond c 1 9 0;pipe a b 1;pipe b c 1;turn 0 0 1;turn 1 0 1;jam 100;");
        x.go(1);
        for (int round = 0; round < 7; round++) {
            for (int i = 0; i < 9; i++) {
                x.spill(0, 1 + i);
            }
            x.mend(round % 2);
            for (int i = 0; i < 10; i++) {
                due.is("undo", x.undo(), 9 - i);
            }
            due.is("water", x.pond(0, 2), 499);
            due.is("jammed", x.count(12), 2);
        }
        x.mend(1);
        x.see(1, 0, 5, true);
        x.known(0);
        x.keep();
        x.undo();
        due.is("jammed", x.pipe(1, 4) * 10 + x.pipe(0, 4), 11);
        due.is("facts stay", x.count(13) * 10 + x.count(14), 10);
        due.is("the image stays", x.back(), 1);
        due.is("not jammed in it", x.pipe(1, 4), 0);
    }

    /** An IMAGE keeps all but FACTS, by how many it is KNOWN, the TAPE and the FAULT; in place of one ahead. */
    private static void images() {
        due.in("images");
        SidePonds x = Due.told(Busy.TEXT);
        due.is("none", x.back(), NONE);
        x.go(6);
        due.is("keep", x.keep(), 6);
        String then = moves(x);
        due.is("back", x.back(), 6);
        due.is("all moves on alike, numbers, too", moves(x), then);
        due.is("keep", x.keep(), 36);
        x.go(4);
        due.is("in its place", x.back(), 36);
        due.is("and again", x.back(), 36);
        SidePonds y = Due.told("pond a 1 0 5;");
        y.keep();
        y.see(1, 0, 5, true);
        y.known(0);
        due.is("a fault", Due.tell(y, " !"), NONE);
        Due.feed(y, "jam 5;");
        y.fill(0, 5);
        due.is("back", y.back(), 0);
        due.is("water", y.pond(0, 2), 5);
        due.is("nothing to undo", y.count(15), 0);
        due.is("nothing to undo", y.undo(), NONE);
        due.is("facts", y.count(13) * 10 + y.count(14), 10);
        due.is("fault", y.fault(0) * 10 + y.fault(1), 11);
        due.is("tape", y.feed(0, 0, 0, 0, 0), 40);
        due.is("a new text has none", y.text(6), 1);
        due.is("a new text has none", y.back(), NONE);
        y.keep();
        due.is("but one with a fault keeps it", Due.tell(y, "!"), NONE);
        due.is("but one with a fault keeps it", y.back(), 0);
    }

    private static String moves(SidePonds x) {
        StringBuilder b = new StringBuilder();
        for (int i = 0; i < 10; i++) {
            x.go(3);
            for (int what = 6; what < 13; what++) {
                b.append(x.count(what)).append(' ');
            }
            for (int boat = 0; boat < 3; boat++) {
                b.append(x.boat(boat, 2)).append(x.boat(boat, 3)).append(x.pipe(boat, 4)).append(' ');
            }
            if (i % 3 == 0) {
                x.mend(i % 2);
            }
        }
        return b.toString();
    }

    /** Promise 1: a TEXT without LINES; an empty TAPE. */
    private static void newObject() {
        due.in("a new object");
        SidePonds x = new SidePonds();
        for (int what = 0; what < 16; what++) {
            due.is("count(" + what + ")", x.count(what), 0);
        }
        due.is("an empty tape", x.text(1), -2);
        due.is("no fault", x.fault(0) * 10 + x.fault(1), NONE);
        due.is("no fact", x.strike(0), NONE);
        due.is("known by none", x.known(0), true);
        due.is("twenty", x.feed(0, 0, 0, 0, 0), 20);
        SidePonds y = new SidePonds();
        SidePonds z = new SidePonds();
        z.text(0);
        due.is("as with a text of none", Busy.whole(y), Busy.whole(z));
        due.is("go", x.go(200) + x.go(0), 400);
    }

    public static void main(String[] args) {
        ahead();
        upWhen();
        joined();
        needs();
        spare();
        lift();
        lockfuls();
        fewest();
        firstIsLast();
        openings();
        draws();
        highest();
        apart();
        still();
        reach();
        pass();
        game();
        rests();
        holds();
        facts();
        fromTheText();
        known();
        twentyFour();
        ask();
        leaksOfOne();
        chance();
        tried();
        triedJammed();
        undo();
        whatCanBeUndone();
        minuteWentBy();
        undoneAgain();
        images();
        newObject();
        due.end();
    }
}
