/**
 * Each argument of each method at the ends of what is allowed, one before and one behind, and far beyond; by a call that
 * is refused, and by one that only asks, nothing changes.
 */
public final class RefusedTest {
    private static final Due due = new Due();
    private static final long NONE = SidePonds.NONE;
    private static final int MAX = Integer.MAX_VALUE;
    private static final int MIN = Integer.MIN_VALUE;
    /** What pondAnswer tells of the two exceptions. */
    private static final long NO_POND = -101;
    private static final long NO_WHAT = -102;
    private static final String UNTOUCHED = Busy.whole(Busy.withTape());

    interface Call {
        long of(SidePonds x, int argument);
    }

    interface Maker {
        SidePonds make();
    }

    /** All that can be told: seven ponds, three locks, ten pipes, twelve turns, eight boats. */
    private static SidePonds full() {
        StringBuilder b = new StringBuilder();
        for (int i = 0; i < 7; i++) {
            b.append("pond ").append((char) ('a' + i)).append(" 2 ").append(i).append(" 50;");
        }
        int pipes = 0;
        for (int i = 0; i < 5; i++) {
            for (int k = i + 1; k < 5; k++) {
                b.append("pipe ").append((char) ('a' + i)).append(' ').append((char) ('a' + k)).append(" 3;");
                b.append("turn ").append(pipes).append(" 50 1;");
                pipes++;
            }
        }
        b.append("turn 0 3 1;turn 9 3 1;lock a 0 9;lock d 0 9;lock g 99 0;");
        b.append("boat a 0;boat d 0;boat g 0;".repeat(2)).append("boat a 3;boat g 99;law flow 1;law leak 1;law toll 1;");
        return Due.told(b.toString());
    }

    private static long pondAnswer(SidePonds x, int pond, int what) {
        try {
            return x.pond(pond, what);
        } catch (IndexOutOfBoundsException e) {
            return NO_POND;
        } catch (java.util.NoSuchElementException e) {
            return NO_WHAT;
        }
    }

    /** Refused outside of least .. most, with that answer, and answered within. */
    private static void bounds(Maker maker, String name, Call call, long refused, int least, int most) {
        long[] arguments = {MIN, least - 1L, least, most, most + 1L, MAX, least - 256L, most + 256L, most + 65536L};
        for (long argument : arguments) {
            if (argument >= MIN && argument <= MAX) {
                boolean outside = argument < least || argument > most;
                long got = call.of(maker.make(), (int) argument);
                String told = name + " of " + argument;
                if (outside) {
                    due.is(told, got, refused);
                } else {
                    due.is(told + " is answered", got != refused, true);
                }
            }
        }
    }

    /** By this nothing changes, whatever the argument. */
    private static void changesNothing(String name, Call call, int... arguments) {
        for (int argument : arguments) {
            SidePonds x = Busy.withTape();
            call.of(x, argument);
            due.is("behind " + name + " of " + argument, Busy.whole(x), UNTOUCHED);
        }
    }

    /** A question: bounds in the busy canal, and by no argument anything changes. */
    private static void asks(String name, Call call, long refused, int least, int most) {
        bounds(Busy::withTape, name, call, refused, least, most);
        changesNothing(name, call, MIN, least - (least > MIN ? 1 : 0), least, most, most + (most < MAX ? 1 : 0), MAX);
    }

    /** Something done: bounds, and nothing changes if it is refused. */
    private static void does(String name, Call call, long refused, int least, int most) {
        bounds(Busy::withTape, name, call, refused, least, most);
        changesNothing(name, call, MIN, least - 1, most + 1, MAX);
    }

    // ---- what was told, and how it is

    private static void tells() {
        due.in("4 to 10");
        // fault(1) is NONE without a FAULT
        bounds(Busy::withTape, "fault", (x, n) -> x.fault(n), NONE, 0, 0);
        bounds(RefusedTest::faulty, "fault", (x, n) -> x.fault(n), NONE, 0, 1);
        changesNothing("fault", (x, n) -> x.fault(n), MIN, -1, 0, 1, 2, MAX);
        changesNothing("text", (x, n) -> x.text(n), MIN, -1, 41, 700, 701, MAX);
        changesNothing("named", (x, n) -> x.named(n), MIN, -1, 0, 1 << 25, MAX);
        asks("pond", (x, n) -> pondAnswer(x, n, 0), NO_POND, 0, 3);
        asks("pond's what", (x, n) -> pondAnswer(x, 3, n), NO_WHAT, 0, 4);
        asks("level", (x, n) -> x.level(n, 0), NONE, 0, 3);
        asks("level's what", (x, n) -> x.level(3, n), NONE, 0, 1);
        asks("pipe", (x, n) -> x.pipe(n, 0), NONE, 0, 2);
        asks("pipe's what", (x, n) -> x.pipe(2, n), NONE, 0, 4);
        asks("lock", (x, n) -> x.lock(n, 0), NONE, 0, 1);
        asks("lock's what", (x, n) -> x.lock(1, n), NONE, 0, 3);
        asks("boat", (x, n) -> x.boat(n, 0), NONE, 0, 2);
        asks("boat's what", (x, n) -> x.boat(2, n), NONE, 0, 3);
        asks("count", (x, n) -> x.count(n), NONE, 0, 15);
    }

    private static SidePonds faulty() {
        SidePonds x = Busy.canal();
        Due.tell(x, "jam 5;!");
        return x;
    }

    private static void laws() {
        due.in("11 law");
        asks("law", (x, n) -> x.law(n, 0), Long.MIN_VALUE, 0, 2);
        asks("law flow", (x, n) -> x.law(0, n), Long.MIN_VALUE, 0, 2);
        asks("law leak", (x, n) -> x.law(1, n), Long.MIN_VALUE, 0, 3);
        asks("law toll", (x, n) -> x.law(2, n), Long.MIN_VALUE, 0, 2);
    }

    // ---- what is done

    private static void doing() {
        due.in("12 to 17");
        asks("runs", (x, n) -> x.runs(n, 0), NONE, 0, 2);
        asks("runs' what", (x, n) -> x.runs(2, n), NONE, 0, 1);
        does("draw", (x, n) -> x.draw(n, 1), NONE, 0, 2);
        does("draw's most", (x, n) -> x.draw(0, n), NONE, 1, 999);
        does("fill", (x, n) -> x.fill(n, 1), NONE, 0, 3);
        does("fill's water", (x, n) -> x.fill(0, n), NONE, 1, 99);
        does("spill", (x, n) -> x.spill(n, 1), NONE, 0, 3);
        does("spill's water", (x, n) -> x.spill(3, n), NONE, 1, 99);
        does("go", (x, n) -> x.go(n), NONE, 0, 200);
        changesNothing("go of none", (x, n) -> x.go(n), 0);
        changesNothing("mend of none", (x, n) -> x.mend(n) ? 1 : 0, MIN, -1, 3, 10, 31, 32, 33, MAX);
        for (int pipe : new int[] {MIN, -1, 3, 10, 31, 32, 33, MAX}) {
            due.is("mend of none", Busy.withTape().mend(pipe), false);
        }
    }

    /** JAMMED; not so much WATER; not JAMMED; nothing to undo; no IMAGE: nothing changes by these. */
    private static void refusedAsItIs() {
        due.in("13, 15, 16, 43, 45 as it is");
        SidePonds busy = Busy.withTape();
        for (int pipe = 0; pipe < 3; pipe++) {
            int which = pipe;
            boolean jammed = busy.pipe(pipe, 4) == 1;
            due.is("mend", Busy.withTape().mend(pipe), jammed);
            due.is("draw", Busy.withTape().draw(pipe, 999), jammed ? -2 : Busy.withTape().runs(pipe, 0));
            if (jammed) {
                changesNothing("draw of a jammed one", (x, n) -> x.draw(which, n), 0, 1, 5, 999, 1000);
                due.is("NONE goes first", busy.draw(pipe, 0), NONE);
                due.is("NONE goes first", busy.draw(pipe, 1000), NONE);
            } else {
                changesNothing("mend of one that isn't jammed", (x, n) -> x.mend(n) ? 1 : 0, pipe);
            }
        }
        due.is("one is jammed, one isn't", busy.count(12) > 0 && busy.count(12) < 3, true);
        for (int pond = 0; pond < 3; pond++) {
            int which = pond;
            int water = busy.pond(pond, 2);
            due.is("spill", Busy.withTape().spill(pond, water + 1), -2);
            due.is("all", Busy.withTape().spill(pond, water), 0);
            due.is("but one", Busy.withTape().spill(pond, water - 1), 1);
            changesNothing("spill of too much", (x, n) -> x.spill(which, n), water + 1, 99);
            due.is("NONE goes first", busy.spill(pond, 100), NONE);
        }
        SidePonds x = nothingToUndo();
        due.is("undo", x.undo(), NONE);
        due.is("behind undo of none", Busy.whole(x), Busy.whole(nothingToUndo()));
        SidePonds y = Busy.withTape(Busy.canal(false));
        due.is("back", y.back(), NONE);
        due.is("behind back of none", Busy.whole(y), Busy.whole(Busy.withTape(Busy.canal(false))));
    }

    private static SidePonds nothingToUndo() {
        SidePonds x = Busy.withTape();
        x.go(1);
        return x;
    }

    /** NONE, and none come, if the TAPE would have more than 700. */
    private static void fullTape() {
        due.in("2 feed");
        SidePonds x = fed();
        for (int word : new int[] {0, 0x706f6e64, -1}) {
            due.is("feed", x.feed(word, word, word, word, word), NONE);
        }
        due.is("behind it", Busy.whole(x), Busy.whole(fed()));
    }

    private static SidePonds fed() {
        SidePonds x = Busy.canal();
        due.is("all 700", Due.feed(x, "pond zz 1 2 3;\n".repeat(46) + "seed 5;   "), 700);
        return x;
    }

    /** NONE, and no MINUTE goes by: behind 9800. */
    private static void goBehind() {
        due.in("17 go behind 9800");
        for (int minute = 9600; minute <= 9800; minute += 25) {
            int left = 9800 - minute;
            for (int n : new int[] {left + 1, left + 2, 200}) {
                if (n <= 200 && n > left) {
                    SidePonds x = late(minute);
                    due.is("go(" + n + ") in " + minute, x.go(n), NONE);
                    due.is("behind it", Busy.whole(x), Busy.whole(late(minute)));
                }
            }
            due.is("the last", late(minute).go(left), 9800);
            if (left > 0) {
                due.is("one ahead of it", late(minute).go(left - 1), 9799);
            }
        }
    }

    private static SidePonds late(int minute) {
        SidePonds x = Due.told(Busy.TEXT);
        x.keep();
        while (x.count(6) < minute) {
            x.go(Math.min(200, minute - x.count(6)));
        }
        x.fill(1, 7);
        return x;
    }

    // ---- what is asked

    private static void whatComes() {
        due.in("18, 19, 41, 42");
        for (int what = 0; what < 5; what++) {
            int which = what;
            asks("ahead(.., " + what + ")", (x, n) -> x.ahead(n, which, 0), NONE, 0, 200);
        }
        asks("ahead's what", (x, n) -> x.ahead(3, n, 0), NONE, 0, 4);
        asks("ahead's pond", (x, n) -> x.ahead(3, 0, n), NONE, 0, 3);
        for (int what = 1; what < 5; what++) {
            for (int pond : new int[] {MIN, -1, 0, 3, 4, 7, 31, 32, MAX}) {
                due.is("the pond isn't looked at", Busy.canal().ahead(9, what, pond), Busy.canal().ahead(9, what, 0));
            }
        }
        asks("upWhen", (x, n) -> x.upWhen(n), NONE, 0, 2);
        asks("chance's seed", (x, n) -> x.chance(n, 5, 1), NONE, 0, MAX);
        asks("chance's n", (x, n) -> x.chance(7, n, 1), NONE, 1, 99);
        asks("chance's pipe", (x, n) -> x.chance(7, 5, n), NONE, 0, 2);
        asks("tried's what", (x, n) -> x.tried(n, 0, 5), NONE, 0, 4);
        for (int what = 0; what < 5; what++) {
            int which = what;
            asks("tried(" + what + ")'s n", (x, n) -> x.tried(which, 0, n), NONE, 0, 200);
            asks("tried(" + what + ")'s i", (x, n) -> x.tried(which, n, 5), NONE, 0, what == 2 ? 2 : 0);
        }
    }

    private static void levels() {
        due.in("20 to 28");
        asks("joined", (x, n) -> x.joined(n, 0), NONE, 1, 15);
        asks("joined's what", (x, n) -> x.joined(15, n), NONE, 0, 1);
        for (int bits : new int[] {16, 17, 24, 31, 32, 33, 63, 127, 128, 129, 1 << 30, MIN + 1, -15}) {
            due.is("joined of none such", Busy.canal().joined(bits, 0), NONE);
        }
        asks("needs", (x, n) -> x.needs(n, 30), NONE, 0, 3);
        asks("needs' height", (x, n) -> x.needs(1, n), NONE, 0, 999);
        asks("spare", (x, n) -> x.spare(n, 3), NONE, 0, 3);
        asks("spare's height", (x, n) -> x.spare(1, n), NONE, 0, 999);
        asks("lift", (x, n) -> x.lift(n), NONE, 0, 1);
        asks("fewest", (x, n) -> x.fewest(n, 12, 0), NONE, 0, 3);
        asks("fewest's height", (x, n) -> x.fewest(0, n, 0), NONE, 0, 999);
        asks("fewest's what", (x, n) -> x.fewest(0, 20, n), NONE, 0, 1);
        asks("draws", (x, n) -> x.draws(n, 12, n == 0 ? 3 : 0), NONE, 0, 3);
        asks("draws' height", (x, n) -> x.draws(0, n, 3), NONE, 0, 999);
        asks("draws' other", (x, n) -> x.draws(n == 1 ? 0 : 1, 12, n), NONE, 0, 3);
        asks("highest", (x, n) -> x.highest(n), NONE, 0, 1);
        asks("apart", (x, n) -> x.apart(n, 1, 0), NONE, 0, 3);
        asks("apart's other", (x, n) -> x.apart(1, n, 0), NONE, 0, 3);
        asks("apart's what", (x, n) -> x.apart(0, 1, n), NONE, 0, 1);
        asks("still", (x, n) -> x.still(n, 0), NONE, 0, 1);
        asks("still's pond", (x, n) -> x.still(1, n), NONE, 0, 3);
        for (int pond : new int[] {MIN, -1, 0, 3, 4, 7, 32, MAX}) {
            due.is("the pond isn't looked at", Busy.canal().still(0, pond), Busy.canal().still(0, 0));
        }
    }

    private static void waysAndGames() {
        due.in("29 to 35");
        asks("reach", (x, n) -> x.reach(n), NONE, 0, 3);
        asks("pass", (x, n) -> x.pass(n, n == 0 ? 1 : 0), NONE, 0, 3);
        asks("pass' other", (x, n) -> x.pass(n == 0 ? 1 : 0, n), NONE, 0, 3);
        asks("lockfuls", (x, n) -> x.lockfuls(n, 0), NONE, 0, 3);
        asks("lockfuls' lock", (x, n) -> x.lockfuls(0, n), NONE, 0, 1);
        asks("game", (x, n) -> x.game(n, 3, 0), NONE, 0, 3);
        asks("game's height", (x, n) -> x.game(1, n, 0), NONE, 0, 999);
        asks("game's what", (x, n) -> x.game(1, 9, n), NONE, 0, 1);
        asks("rests", (x, n) -> x.rests(n, n == 0 ? 1 : 0), NONE, 0, 3);
        asks("rests' other", (x, n) -> x.rests(n == 0 ? 1 : 0, n), NONE, 0, 3);
        asks("rest", (x, n) -> x.rest(n, n == 0 ? 1 : 0, 0), NONE, 0, 3);
        asks("rest's other", (x, n) -> x.rest(n == 0 ? 1 : 0, n, 0), NONE, 0, 3);
        asks("rest's k", (x, n) -> x.rest(0, 1, n), NONE, 0, MAX);
        asks("holds", (x, n) -> x.holds(n, 0), NONE, 0, 6);
        asks("holds' what", (x, n) -> x.holds(2, n), NONE, 0, 1);
        // two that are alike are none
        for (int pond = 0; pond < 4; pond++) {
            int which = pond;
            due.is("alike", Busy.canal().pass(pond, pond), NONE);
            due.is("alike", Busy.canal().rests(pond, pond), NONE);
            due.is("alike", Busy.canal().rest(pond, pond, 0), NONE);
            due.is("alike", Busy.canal().rest(pond, pond, 9), NONE);
            due.is("alike", Busy.canal().draws(pond, 0, pond), NONE);
            due.is("alike, but apart", Busy.canal().apart(pond, pond, 0), 0);
            changesNothing("alike", (x, n) -> x.pass(which, n) + x.rests(which, n) + x.rest(which, n, 0) + x.draws(which, 5, n), pond);
        }
    }

    private static void facts() {
        due.in("36 to 40");
        does("see's minutes", (x, n) -> x.see(n, 0, 5, true), NONE, 1, 60);
        does("see's pond", (x, n) -> x.see(1, n, 5, false), NONE, 0, 3);
        does("see's water", (x, n) -> x.see(1, 0, n, true), NONE, 0, 9999);
        does("strike", (x, n) -> x.strike(n), NONE, 0, 3);
        does("known", (x, n) -> x.known(n) ? 1 : 0, 0, -1, 4);
        asks("leaks", (x, n) -> x.leaks(n), NONE, 0, 3);
        asks("ask", (x, n) -> x.ask(n, 0), NONE, 0, 3);
        asks("ask's what", (x, n) -> x.ask(1, n), NONE, 0, 1);
        SidePonds x = twentyFour();
        for (int i = 0; i < 3; i++) {
            due.is("a 25th", x.see(1, 0, 0, true), NONE);
            due.is("a 25th", x.see(61, 0, 0, true), NONE);
            due.is("a 25th", x.strike(23), NONE);
            due.is("a 25th", x.strike(24), NONE);
        }
        due.is("known by 25", x.known(25), false);
        due.is("behind a 25th", Busy.whole(x), Busy.whole(twentyFour()));
    }

    private static SidePonds twentyFour() {
        SidePonds x = Busy.canal();
        for (int i = 4; i < 24; i++) {
            due.is("a fact", i % 3 == 0 ? x.strike(i - 2) : x.see(i, i % 4, i, i % 2 == 0), i);
        }
        x.known(22);
        return x;
    }

    /** Of several answers that hold NONE goes first: the others of these calls would be -2. */
    private static void noneGoesFirst() {
        due.in("NONE goes first");
        SidePonds x = Busy.withTape();
        int jammed = x.pipe(0, 4) == 1 ? 0 : x.pipe(1, 4) == 1 ? 1 : 2;
        long[] answers = {x.draw(jammed, 1), x.draw(jammed, 0), x.draw(jammed, 1000), x.draw(jammed, MIN),
            x.spill(2, 99), x.spill(2, 100), x.spill(2, MAX), x.spill(4, 99),
            x.fewest(0, 999, 0), x.fewest(0, 999, 2), x.fewest(0, 1000, 0), x.fewest(4, 999, 1), x.fewest(0, 999, -1),
            x.fewest(0, 1, 1), x.fewest(0, 1, 2), x.fewest(0, -1, 1),
            x.draws(0, 999, 1), x.draws(0, 999, 0), x.draws(0, 1000, 1), x.draws(4, 999, 1), x.draws(0, 999, 4),
            x.rest(0, 1, 9), x.rest(0, 1, -1), x.rest(1, 1, 9), x.rest(0, 4, 9), x.rest(4, 0, 9),
            x.lock(1, 3), x.lock(2, 3), x.upWhen(2), x.upWhen(3), x.game(0, 999, 1), x.game(0, 1000, 1), x.game(4, 999, 1),
            x.game(0, 999, 2), x.text(-1), x.text(MAX)};
        int[] right = {-2, -1, -1, -1, -2, -1, -1, -1, -2, -1, -1, -1, -1, -2, -1, -1, -2, -1, -1, -1, -1, -2, -1, -1, -1, -1,
            -2, -1, -2, -1, -2, -1, -1, -1, -2, -2};
        for (int i = 0; i < right.length; i++) {
            due.is("call " + i, answers[i], right[i]);
        }
        due.is("behind these", Busy.whole(x), UNTOUCHED);
    }

    private static final Call[] QUESTIONS = {
        (x, n) -> x.level(1, 0), (x, n) -> x.pipe(0, 3), (x, n) -> x.pipe(1, 3), (x, n) -> x.law(0, 0), (x, n) -> x.law(1, 1),
        (x, n) -> x.law(2, 0), (x, n) -> x.runs(2, 0), (x, n) -> x.ahead(40, 0, 1), (x, n) -> x.ahead(40, 3, 1),
        (x, n) -> x.ahead(40, 2, 1), (x, n) -> x.upWhen(0), (x, n) -> x.upWhen(1), (x, n) -> x.joined(7, 0), (x, n) -> x.needs(1, 50),
        (x, n) -> x.spare(1, 9), (x, n) -> x.fewest(1, 14, 0), (x, n) -> x.fewest(1, 14, 1), (x, n) -> x.draws(1, 14, 0),
        (x, n) -> x.highest(0), (x, n) -> x.apart(0, 1, 0), (x, n) -> x.still(0, 0), (x, n) -> x.still(1, 1), (x, n) -> x.reach(0),
        (x, n) -> x.pass(0, 2), (x, n) -> x.lockfuls(3, 0), (x, n) -> x.game(1, 9, 1), (x, n) -> x.rests(0, 1), (x, n) -> x.rest(0, 1, 0),
        (x, n) -> x.holds(3, 0), (x, n) -> x.leaks(1), (x, n) -> x.leaks(0), (x, n) -> x.ask(1, 0), (x, n) -> x.ask(1, 1),
        (x, n) -> x.chance(5, 9, 0), (x, n) -> x.chance(7, 60, 1), (x, n) -> x.tried(0, 0, 60), (x, n) -> x.tried(1, 0, 60),
        (x, n) -> x.tried(2, 1, 60), (x, n) -> x.tried(3, 0, 60), (x, n) -> x.tried(4, 0, 60), (x, n) -> x.count(7)};

    /** What is asked ahead of it is nothing to an answer, nor is what went by ahead of a new TEXT. */
    private static void askedAhead() {
        due.in("asked ahead");
        for (String text : new String[] {Busy.TEXT, Busy.TEXT.replace("jam 25;", "jam 50;"), Busy.TEXT.replace("jam 25;", "jam 60;")}) {
            long[] alone = new long[QUESTIONS.length];
            for (int i = 0; i < alone.length; i++) {
                alone[i] = QUESTIONS[i].of(asked(text), 0);
            }
            for (int ahead = 0; ahead < alone.length; ahead++) {
                SidePonds x = asked(text);
                for (int i = 0; i < alone.length; i++) {
                    QUESTIONS[ahead].of(x, 0);
                    due.is("question " + i + " behind " + ahead, QUESTIONS[i].of(x, 0), alone[i]);
                }
            }
        }
    }

    private static SidePonds asked(String text) {
        SidePonds x = Due.told(text);
        x.go(2);
        x.see(2, 1, 4, true);
        x.see(1, 1, 9, true);
        return x;
    }

    /** The last one of seven, three, ten, eight is there, one behind it isn't. */
    private static void fullCanal() {
        due.in("a full canal");
        Maker full = RefusedTest::full;
        bounds(full, "pond", (x, n) -> pondAnswer(x, n, 2), NO_POND, 0, 6);
        bounds(full, "level", (x, n) -> x.level(n, 1), NONE, 0, 6);
        bounds(full, "pipe", (x, n) -> x.pipe(n, 4), NONE, 0, 9);
        bounds(full, "lock", (x, n) -> x.lock(n, 3), NONE, 0, 2);
        bounds(full, "boat", (x, n) -> x.boat(n, 3), NONE, 0, 7);
        bounds(full, "flow", (x, n) -> x.law(0, n), Long.MIN_VALUE, 0, 9);
        bounds(full, "leak", (x, n) -> x.law(1, n), Long.MIN_VALUE, 0, 6);
        bounds(full, "toll", (x, n) -> x.law(2, n), Long.MIN_VALUE, 0, 7);
        bounds(full, "runs", (x, n) -> x.runs(n, 1), NONE, 0, 9);
        bounds(full, "draw", (x, n) -> x.draw(n, 999), NONE, 0, 9);
        bounds(full, "fill", (x, n) -> x.fill(n, 99), NONE, 0, 6);
        bounds(full, "spill", (x, n) -> x.spill(n, 50), NONE, 0, 6);
        bounds(full, "ahead", (x, n) -> x.ahead(200, 0, n), NONE, 0, 6);
        bounds(full, "upWhen", (x, n) -> x.upWhen(n), NONE, 0, 7);
        bounds(full, "joined", (x, n) -> x.joined(n, 0), NONE, 1, 127);
        bounds(full, "needs", (x, n) -> x.needs(n, 999), NONE, 0, 6);
        bounds(full, "spare", (x, n) -> x.spare(n, 0), NONE, 0, 6);
        bounds(full, "lift", (x, n) -> x.lift(n), NONE, 0, 2);
        bounds(full, "fewest", (x, n) -> x.fewest(n, 28, 1), NONE, 0, 6);
        bounds(full, "draws", (x, n) -> x.draws(n, 28, n == 0 ? 6 : 0), NONE, 0, 6);
        bounds(full, "still", (x, n) -> x.still(1, n), NONE, 0, 6);
        bounds(full, "reach", (x, n) -> x.reach(n), NONE, 0, 6);
        bounds(full, "pass", (x, n) -> x.pass(n == 0 ? 6 : 0, n), NONE, 0, 6);
        bounds(full, "lockfuls", (x, n) -> x.lockfuls(6, n), NONE, 0, 2);
        bounds(full, "game", (x, n) -> x.game(n, 0, 1), NONE, 0, 6);
        bounds(full, "rests", (x, n) -> x.rests(n, n == 0 ? 6 : 0), NONE, 0, 6);
        bounds(full, "see", (x, n) -> x.see(60, n, 9999, false), NONE, 0, 6);
        bounds(full, "leaks", (x, n) -> x.leaks(n), NONE, 0, 6);
        bounds(full, "ask", (x, n) -> x.ask(n, 1), NONE, 0, 6);
        bounds(full, "chance", (x, n) -> x.chance(0, 99, n), NONE, 0, 9);
        bounds(full, "tried", (x, n) -> x.tried(2, n, 200), NONE, 0, 9);
        int[] counts = {7, 3, 10, 12, 8, 3, 0, 350};
        for (int what = 0; what < counts.length; what++) {
            due.is("count(" + what + ")", full().count(what), counts[what]);
        }
    }

    /** Without LINES there is no POND, LOCK, PIPE, BOAT 0. */
    private static void emptyCanal() {
        due.in("an empty canal");
        for (int n : new int[] {MIN, -1, 0, 1, 7, 31, 32, MAX}) {
            SidePonds x = new SidePonds();
            long[] answers = {x.level(n, 0), x.pipe(n, 0), x.lock(n, 0), x.boat(n, 0), x.runs(n, 0), x.draw(n, 1),
                x.fill(n, 1), x.spill(n, 1), x.ahead(0, 0, n), x.upWhen(n), x.joined(n, 0), x.needs(n, 0), x.spare(n, 0),
                x.lift(n), x.fewest(n, 0, 0), x.draws(n, 0, n - 1), x.draws(n - 1, 0, n), x.apart(n, n, 0), x.still(1, n),
                x.reach(n), x.pass(n, n - 1), x.lockfuls(n, n), x.game(n, 0, 0), x.rests(n, n - 1), x.rest(n, n - 1, 0),
                x.see(1, n, 0, true), x.strike(n), x.leaks(n), x.ask(n, 0), x.chance(0, 1, n), x.tried(2, n, 0)};
            for (int i = 0; i < answers.length; i++) {
                due.is("call " + i + " of " + n, answers[i], NONE);
            }
            for (int what = -1; what < 4; what++) {
                due.is("law", x.law(what, n), Long.MIN_VALUE);
            }
            due.is("pond", pondAnswer(x, n, 0), NO_POND);
            due.is("mend", x.mend(n), false);
            due.is("behind these", Busy.whole(x), Busy.whole(new SidePonds()));
        }
        SidePonds x = new SidePonds();
        due.is("no ponds", x.highest(0), -2);
        due.is("no ponds", x.highest(1), -2);
        due.is("NONE goes first", x.highest(2), NONE);
        due.is("NONE goes first", x.highest(-1), NONE);
        due.is("still", x.still(0, 0), 0);
        due.is("ahead", x.ahead(200, 1, 0) + x.ahead(200, 2, 0) + x.ahead(200, 3, 0) + x.ahead(200, 4, 0), 0);
        due.is("tried", x.tried(0, 0, 200) + x.tried(1, 0, 200) + x.tried(3, 0, 200) + x.tried(4, 0, 200), 0);
        due.is("known by none", x.known(0), true);
        due.is("known by 1", x.known(1), false);
        due.is("keep", x.keep(), 0);
        due.is("back", x.back(), 0);
    }

    public static void main(String[] args) {
        tells();
        laws();
        doing();
        refusedAsItIs();
        fullTape();
        goBehind();
        whatComes();
        levels();
        waysAndGames();
        facts();
        noneGoesFirst();
        askedAhead();
        fullCanal();
        emptyCanal();
        due.end();
    }
}
