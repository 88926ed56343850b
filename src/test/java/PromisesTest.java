import java.util.NoSuchElementException;

/** For each promise of the document answers worked out by hand: ordinary ones, edges, wrong inputs. */
public final class PromisesTest {
    private static final Due due = new Due();
    private static final int NONE = SidePonds.NONE;
    private static final int MAX = Integer.MAX_VALUE;
    private static final int MIN = Integer.MIN_VALUE;

    /** Three ponds in a row, a lock in the middle; levels 7/2, 2, 9. */
    private static final String ROW = "pond top 2 1 5;pond mid 3 2 0;pond low 4 9 0;lock mid 3 5;"
            + "pipe top mid 8;pipe mid low 6;";

    private static void promise1() {
        due.in("1 new");
        SidePonds x = new SidePonds();
        for (int what = 0; what < 16; what++) {
            due.is("count(" + what + ")", x.count(what), 0);
        }
        due.is("text(0)", x.text(0), 0);
        due.is("text(1)", x.text(1), -2);
        due.is("NONE", SidePonds.NONE, -1);
        due.is("go", x.go(200), 200);
        due.is("reach", x.reach(0), NONE);
        due.is("keep", x.keep(), 200);
    }

    private static void promise2() {
        due.in("2 feed");
        SidePonds x = new SidePonds();
        for (int i = 1; i <= 35; i++) {
            due.is("feed", x.feed(0x20202020, 0x20202020, 0x20202020, 0x20202020, 0x2020200a), 20 * i);
        }
        due.is("feed of too many", x.feed(0, 0, 0, 0, 0), NONE);
        due.is("none came", x.text(701), -2);
        due.is("all blanks", x.text(700), 0);
        due.is("empty then", x.feed(0x6a616d20, 0x37370000, -1, -1, -1), 20);
        due.is("the highest first", x.text(6), NONE);
        due.is("place", x.fault(1), 6);
        x.feed(0x6a616d20, 0x37373bff, -1, -1, -1);
        due.is("first bytes alone", x.text(7), 1);
        due.is("jam 77", x.holds(1, 0), 23);
        // what is behind the first n bytes does not belong to them
        x.feed(0x706f6e64, 0x20616263, 0x64656667, 0x68000000, 0);
        due.is("within a word", x.text(11), NONE);
        due.is("more must come", x.fault(0) * 100 + x.fault(1), 111);
        x.feed(0x6a616d20, 0x31303030, 0x3b000000, 0, 0);
        due.is("within a number", x.text(7), NONE);
        due.is("more must come", x.fault(0) * 100 + x.fault(1), 107);
    }

    private static void promises3and4() {
        due.in("3 text, 4 fault");
        SidePonds x = Due.told(ROW + "jam 100;spring top 4;turn 0 0 20;boat mid 0;law toll 9;");
        x.go(3);
        x.fill(0, 1);
        x.keep();
        x.see(1, 0, 1, true);
        x.known(0);
        due.is("jammed", x.count(12), 1);
        due.is("lines", Due.tell(x, ROW + "boat mid 0;"), 7);
        int[] counts = {3, 1, 2, 0, 1, 0, 0, 5, 0, 0, 0, 0, 0, 0, 0, 0};
        for (int what = 0; what < counts.length; what++) {
            due.is("count(" + what + ")", x.count(what), counts[what]);
        }
        due.is("no image", x.back(), NONE);
        due.is("nothing to undo", x.undo(), NONE);
        due.is("no spring", x.pond(0, 3), 0);
        due.is("no turns", x.pipe(0, 3), 0);
        due.is("no law", x.law(2, 0), Long.MIN_VALUE);
        due.is("no jam", x.holds(1, 0), 1);
        due.is("all known", x.see(1, 0, 900, true), 0);
        due.is("leaks", x.leaks(0), 0);
        for (int what : new int[] {-1, 2, MAX, MIN}) {
            due.is("fault(" + what + ")", x.fault(what), NONE);
        }
        // nothing of the text before the last is left
        String much = "pond a 1 0 60;pond b 1 0 0;pipe a b 1;turn 0 0 20;spring a 3;lock a 1 1;boat a 0;jam 9;seed 5;"
            + "law flow 1;law leak 2;law toll 3;";
        for (int i = 0; i < 3; i++) {
            due.is("much", Due.tell(x, much), 12);
            due.is("knots", x.count(5), 3);
            due.is("open", x.pipe(0, 3), 1);
            due.is("laws", x.law(0, 0) * 100 + x.law(1, 0) * 10 + x.law(2, 0), 123);
        }
        due.is("little", Due.tell(x, "pond a 1 0 60;pond b 1 0 0;pipe a b 50;lock a 1 1;boat a 0;"), 5);
        due.is("no knots", x.count(5), 0);
        due.is("not open", x.pipe(0, 3), 0);
        due.is("no flow", x.law(0, 0), Long.MIN_VALUE);
        due.is("no leak", x.law(1, 0), Long.MIN_VALUE);
        due.is("no toll", x.law(2, 0), Long.MIN_VALUE);
        due.is("no spring", x.ahead(9, 0, 0), 60);
        // faults and their places: FaultsTest
    }

    private static void promise5() {
        due.in("5 named");
        SidePonds x = Due.told("pond a 1 1 1;pond abcdef 1 1 1;pond zzzzzz 1 1 1;pond ab 1 1 1;");
        due.is("a", x.named(1 << 25), 0);
        due.is("abcdef", x.named(Due.letters("abcdef")), 1);
        due.is("abcdef", x.named(0b00001_00010_00011_00100_00101_00110), 1);
        due.is("zzzzzz", x.named(Due.letters("zzzzzz")), 2);
        due.is("ab", x.named(1 << 25 | 2 << 20), 3);
        due.is("b", x.named(2 << 25), NONE);
        due.is("a lowest", x.named(1), NONE);
        due.is("empty", x.named(0), NONE);
        due.is("beyond", x.named(1 << 25 | 1 << 30), NONE);
        due.is("below 0", x.named(1 << 25 | MIN), NONE);
    }

    private static int pondThrows(SidePonds x, int pond, int what) {
        try {
            x.pond(pond, what);
            return 0;
        } catch (IndexOutOfBoundsException e) {
            return 1;
        } catch (NoSuchElementException e) {
            return 2;
        }
    }

    private static void promise6() {
        due.in("6 pond");
        SidePonds x = Due.told("pond a 20 99 999;pond b 1 0 0;lock b 1 2;spring a 9;spring b 0;");
        int[][] rows = {{20, 99, 999, 9, -2}, {1, 0, 0, 0, 0}};
        for (int pond = 0; pond < 2; pond++) {
            for (int what = 0; what < 5; what++) {
                due.is("pond", x.pond(pond, what), rows[pond][what]);
            }
        }
        x.spill(0, 99);
        due.is("now", x.pond(0, 2), 900);
        due.is("pond 2", pondThrows(x, 2, 0), 1);
        due.is("pond -1", pondThrows(x, -1, 0), 1);
        due.is("pond max", pondThrows(x, MAX, 0), 1);
        due.is("either, if there is neither", pondThrows(x, MIN, 5) > 0, true);
        due.is("what 5", pondThrows(x, 1, 5), 2);
        due.is("what -1", pondThrows(x, 0, -1), 2);
    }

    private static void promise7() {
        due.in("7 level");
        SidePonds x = Due.told("pond a 6 2 4;pond b 7 0 0;pond c 20 99 999;");
        due.is("a", x.level(0, 0) * 100 + x.level(0, 1), 803);
        due.is("b", x.level(1, 0) * 100 + x.level(1, 1), 1);
        due.is("c above", x.level(2, 0), 99 * 20 + 999);
        due.is("c below", x.level(2, 1), 20);
        due.is("no pond", x.level(3, 0), NONE);
        due.is("no pond", x.level(-1, 0), NONE);
        due.is("no what", x.level(0, 2), NONE);
        due.is("no what", x.level(0, -1), NONE);
    }

    private static void promise8() {
        due.in("8 pipe");
        SidePonds x = Due.told(ROW + "jam 100;turn 1 2 2;turn 1 3 3;turn 1 99 20;");
        due.is("one", x.pipe(1, 0), 1);
        due.is("other", x.pipe(1, 1), 2);
        due.is("wide", x.pipe(1, 2), 6);
        due.is("open", x.pipe(1, 3), 0);
        x.go(2);
        due.is("open in 2", x.pipe(1, 3), 1);
        due.is("jammed", x.pipe(1, 4), 0);
        x.go(1);
        due.is("not open, as it is jammed", x.pipe(1, 3), 0);
        due.is("jammed", x.pipe(1, 4), 1);
        x.mend(1);
        due.is("open in 3", x.pipe(1, 3), 1);
        due.is("the other one", x.pipe(0, 3), 0);
        for (int minute = 4; minute < 130; minute++) {
            x.go(1);
            x.mend(1);
            due.is("open in " + minute, x.pipe(1, 3), minute < 6 || (minute >= 99 && minute < 119) ? 1 : 0);
        }
        due.is("no pipe", x.pipe(2, 0), NONE);
        due.is("no pipe", x.pipe(-1, 0), NONE);
        due.is("no what", x.pipe(0, 5), NONE);
        due.is("no what", x.pipe(0, -1), NONE);
    }

    /** Two boats in one lock, whose level rises by one a minute; another lock that is never low enough. */
    private static final String BOATS = "pond a 1 0 0;pond b 1 5 0;spring a 1;lock a 3 5;lock b 4 5;"
            + "boat a 1;boat a 2;boat b 0;boat a 7;";

    private static void promises9and10() {
        due.in("9 lock, 10 boat");
        SidePonds x = Due.told(BOATS);
        due.is("pond", x.lock(1, 0), 1);
        due.is("low", x.lock(1, 1), 4);
        due.is("high", x.lock(0, 2), 5);
        due.is("lock of a boat", x.boat(2, 0), 1);
        due.is("from", x.boat(1, 1), 2);
        x.go(1);
        due.is("nobody", x.lock(0, 3), -2);
        due.is("too early", x.boat(0, 3), 0);
        due.is("waits at the other lock", x.boat(2, 3), 1);
        x.go(1);
        due.is("in", x.lock(0, 3), 0);
        due.is("in", x.boat(0, 2), 1);
        due.is("waited, though in", x.boat(0, 3), 1);
        x.go(1);
        due.is("the second waits", x.boat(1, 2), 0);
        due.is("the second waited", x.boat(1, 3), 1);
        due.is("two in the locks' way", x.count(10), 2 + 1 + 3);
        x.go(2);
        due.is("up", x.boat(0, 2), 2);
        due.is("waited", x.boat(0, 3), 3);
        due.is("too high for the second", x.boat(1, 2), 0);
        due.is("toll without a law", x.count(11), 1);
        due.is("nobody", x.lock(0, 3), -2);
        x.go(3);
        due.is("from its minute on", x.boat(3, 3), 1);
        due.is("up waits no more", x.boat(0, 3), 3);
        for (int what : new int[] {-1, 4, MAX, MIN}) {
            due.is("no what", x.lock(0, what), NONE);
            due.is("no what", x.boat(0, what), NONE);
        }
        due.is("no lock", x.lock(2, 0), NONE);
        due.is("no lock", x.lock(-1, 0), NONE);
        due.is("no boat", x.boat(4, 0), NONE);
        due.is("no boat", x.boat(-1, 0), NONE);
        // level both low and high enough: in and up within one minute, one behind another
        SidePonds y = Due.told("pond a 2 0 9;lock a 5 4;boat a 0;boat a 0;law toll boats*10+wide+minute;");
        y.go(1);
        due.is("both up", y.count(9), 2);
        due.is("each counted as in alone", y.count(11), 20);
        due.is("none waited", y.count(10), 0);
    }

    private static long worth(String e) {
        return Due.told("pond a 3 4 5;law leak " + e + ";").law(1, 0);
    }

    private static void promise11() {
        due.in("11 law");
        long error = Long.MIN_VALUE;
        due.is("names", worth("area*1000+floor*100+water*10+wide+open+boats+minute"), 3450);
        due.is("cut towards 0", worth("(1-8)/2"), -3);
        due.is("cut towards 0", worth("7/(0-2)"), -3);
        due.is("left to right", worth("9-3-2"), 4);
        due.is("left to right", worth("100/10/5*3"), 6);
        due.is("times first", worth("2+3*4-6/2"), 11);
        due.is("not last", worth("not 1=2"), 1);
        due.is("not not", worth("not not 7"), 1);
        due.is("and before or", worth("1 or 1 and 0"), 1);
        due.is("or", worth("0 or 0-5"), 1);
        due.is("and", worth("5 and 0-3"), 1);
        due.is("and", worth("5 and 0"), 0);
        due.is("brackets", worth("(1 or 1) and 0"), 0);
        due.is("compared", worth("(1<2)+(2<=2)*2+(3=3)*4+(3<>3)*8+(2>=3)*16+(3>2)*32"), 39);
        due.is("compared", worth("(2<2)+(3<=2)+(3=4)+(3>=3)*8+(2>2)+(3<>4)*32"), 40);
        due.is("by 0", worth("1/(area-3)"), error);
        due.is("both sides", worth("1 or 1/0"), error);
        due.is("both sides", worth("0 and 1/0"), error);
        due.is("not", worth("not (1/0)"), error);
        due.is("at the limit", worth("1000*1000*1000*1000"), 1000000000000L);
        due.is("at the limit", worth("1000*1000*1000*1000-1+1"), 1000000000000L);
        due.is("at the other limit", worth("1000*1000*1000*(0-1000)"), -1000000000000L);
        due.is("at the other limit", worth("(0-1000)*1000*1000*1000"), -1000000000000L);
        due.is("at the limit", worth("(0-1000)*1000*1000*(0-1000)"), 1000000000000L);
        due.is("above", worth("(1000*1000*1000*1000-1)*2"), error);
        due.is("above", worth("1000*1000*1000*1000+1"), error);
        due.is("at the other limit", worth("0-1000*1000*1000*1000"), -1000000000000L);
        due.is("below", worth("0-1000*1000*1000*1000-1"), error);
        due.is("beyond longs", worth("9999*9999*9999*(0-9999)*0"), error);
        due.is("beyond longs", worth("(9999*9999*9999)*(9999*9999*9999)"), error);
        due.is("times 0", worth("0*(9999*9999*9999)"), 0);
        due.is("an error on the way", worth("(1000*1000*1000*1000+1)*0"), error);

        SidePonds x = Due.told("pond a 2 1 4;pond b 3 3 0;pond c 5 0 9;lock b 9 9;pipe a b 7;pipe b c 8;turn 1 0 1;"
                + "boat b 0;law flow area*100+wide;law toll floor*1000+wide*10+boats;");
        due.is("alike: of the first told", x.law(0, 0), 207);
        due.is("of the one it runs from", x.law(0, 1), 308);
        due.is("toll of the lock", x.law(2, 0), 3000);
        due.is("no leak", x.law(1, 0), error);
        due.is("no pipe", x.law(0, 2), error);
        due.is("no boat", x.law(2, 1), error);
        due.is("no boat", x.law(2, -1), error);
        due.is("no law", x.law(-1, 0), error);
        due.is("no law", x.law(3, 0), error);
        x.go(1);
        due.is("a boat is in", x.law(2, 0), 3001);
        SidePonds y = Due.told(ROW + "turn 0 0 2;turn 1 1 1;law leak open*100+minute;jam 0;");
        due.is("open", y.law(1, 2), 100);
        y.go(1);
        due.is("open", y.law(1, 2), 201);
    }

    private static void promise12() {
        due.in("12 runs");
        // levels 7/2 and 2: by x alike at most (5-x)*3+6 >= 2x+12-... so that (7-x)/2 >= (6+x)/3, x <= 9/5
        SidePonds x = Due.told(ROW + "pond high 1 50 3;pipe low high 9;law flow 0;pond even 4 9 0;pipe even low 2;");
        due.is("how much", x.runs(0, 0), 1);
        due.is("from", x.runs(0, 1), 0);
        due.is("the dry one is higher", x.runs(1, 0), 0);
        due.is("from the dry one", x.runs(1, 1), 2);
        due.is("all it has", x.runs(2, 0), 3);
        due.is("from the second", x.runs(2, 1), 3);
        due.is("alike", x.runs(3, 0), 0);
        due.is("alike, from the first told", x.runs(3, 1), 4);
        due.is("no what", x.runs(0, 2), NONE);
        due.is("no what", x.runs(0, -1), NONE);
        due.is("no pipe", x.runs(4, 0), NONE);
        due.is("no pipe", x.runs(-1, 1), NONE);
    }

    private static void promise13() {
        due.in("13 draw");
        SidePonds x = Due.told("pond a 1 0 999;pond b 1 0 0;pipe b a 1;turn 0 5 1;jam 100;law flow 0;");
        due.is("most", x.draw(0, 7), 7);
        due.is("water", x.pond(1, 2), 7);
        due.is("all", x.draw(0, 999), 492);
        due.is("none left to run", x.draw(0, 1), 0);
        due.is("also of 0", x.count(15), 3);
        due.is("water", x.pond(0, 2) * 1000 + x.pond(1, 2), 500499);
        due.is("too few", x.draw(0, 0), NONE);
        due.is("too many", x.draw(0, 1000), NONE);
        due.is("no pipe", x.draw(1, 1), NONE);
        due.is("no pipe", x.draw(-1, 1), NONE);
        x.go(6);
        due.is("jammed", x.draw(0, 1), -2);
        due.is("jammed and too many", x.draw(0, 1000), NONE);
        due.is("nothing to undo", x.count(15), 0);
    }

    private static void promises14and15() {
        due.in("14 fill, 15 spill");
        SidePonds x = Due.told("pond a 1 0 999;pond b 1 99 0;pipe a b 1;");
        due.is("fill", x.fill(1, 99), 99);
        due.is("fill", x.fill(1, 1), 100);
        due.is("spill", x.spill(1, 99), 1);
        due.is("not so much", x.spill(1, 2), -2);
        due.is("all", x.spill(1, 1), 0);
        due.is("calls", x.count(15), 4);
        for (int i = 0; i < 90; i++) {
            x.fill(0, 99);
        }
        due.is("nearly", x.pond(0, 2), 9909);
        due.is("full", x.fill(0, 91), 9999);
        due.is("full already", x.fill(0, 1), 9999);
        for (int water : new int[] {0, 100, -1, MAX, MIN}) {
            due.is("fill", x.fill(0, water), NONE);
            due.is("spill", x.spill(0, water), NONE);
        }
        due.is("no pond", x.fill(2, 1), NONE);
        due.is("no pond", x.spill(2, 1), NONE);
        due.is("no pond", x.fill(-1, 1), NONE);
        due.is("no pond", x.spill(-1, 1), NONE);
        // a pond that was run to more than 9999 keeps it
        SidePonds y = Due.told("pond a 1 99 999;pond b 20 0 999;pipe a b 1;spring b 9;");
        for (int i = 0; i < 95; i++) {
            y.fill(1, 99);
        }
        due.is("full", y.pond(1, 2), 9999);
        due.is("runs in", y.draw(0, 999), 569);
        due.is("more", y.pond(1, 2), 10568);
        due.is("keeps it", y.fill(1, 50), 10568);
        due.is("less again", y.spill(1, 99), 10469);
        y.go(1);
        due.is("keeps it by springs", y.pond(1, 2), 10469);
    }

    private static void promise16() {
        due.in("16 mend");
        SidePonds x = Due.told(ROW + "jam 100;turn 0 0 1;");
        due.is("not jammed", x.mend(0), false);
        x.go(1);
        due.is("the other one", x.mend(1), false);
        due.is("jammed", x.mend(0), true);
        due.is("no more", x.mend(0), false);
        due.is("once", x.count(15), 1);
        due.is("undone", x.undo(), 0);
        due.is("jammed again", x.pipe(0, 4), 1);
        due.is("no pipe", x.mend(2), false);
        due.is("no pipe", x.mend(-1), false);
        due.is("no pipe", x.mend(MAX), false);
    }

    /** The numbers of the document, worked out beside the program. */
    private static int jamsWithin(int seed, int jam, int minutes) {
        long last = seed;
        int first = 0;
        for (int i = 1; i <= minutes && first == 0; i++) {
            last = (last * 1103515245L + 12345L) % 2147483648L;
            first = last / 65536 % 100 < jam ? i : 0;
        }
        return first;
    }

    /** Not the MINUTE it is but the one it would be counts, and nothing changes by a go that is refused. */
    private static void lastMinutes() {
        SidePonds x = Due.told("pond a 2 0 10;spring a 1;law leak 1;");
        for (int i = 1; i <= 48; i++) {
            x.go(200);
        }
        due.is("ahead of the last ones", x.go(62), 9662);
        x.keep();
        x.fill(0, 5);
        due.is("one too many", x.go(139), NONE);
        due.is("more", x.go(140), NONE);
        due.is("most", x.go(200), NONE);
        due.is("the minute stays", x.count(6), 9662);
        due.is("water stays", x.pond(0, 2), 15);
        due.is("can be undone yet", x.count(15), 1);
        due.is("it looks ahead all the same", x.ahead(200, 0, 0), 15);
        due.is("up to the last one", x.go(138), 9800);
        due.is("nothing to undo", x.count(15), 0);
        due.is("behind", x.go(1), NONE);
        due.is("back", x.back(), 9662);
        due.is("and on again", x.go(137), 9799);
        due.is("behind", x.go(2), NONE);
        due.is("the last one", x.go(1), 9800);
    }

    private static void promise17() {
        due.in("17 go");
        SidePonds x = Due.told("pond a 2 0 10;");
        due.is("none", x.go(0), 0);
        due.is("too many", x.go(201), NONE);
        due.is("too few", x.go(-1), NONE);
        for (int i = 1; i <= 49; i++) {
            due.is("200", x.go(200), 200 * i);
        }
        due.is("behind", x.go(1), NONE);
        due.is("behind", x.go(200), NONE);
        due.is("stays", x.count(6), 9800);
        due.is("9800 is not behind it", x.go(0), 9800);
        lastMinutes();
        for (int seed : new int[] {0, 1, 77, 99999}) {
            for (int jam : new int[] {1, 5, 49, 50, 99}) {
                SidePonds y = Due.told("pond a 1 0 0;pond b 1 0 0;pipe a b 1;turn 0 0 20;seed " + seed + ";jam " + jam + ";");
                int jams = jamsWithin(seed, jam, 20);
                for (int minute = 1; minute <= 20; minute++) {
                    y.go(1);
                    due.is("jammed by seed " + seed + " jam " + jam, y.pipe(0, 4), jams != 0 && minute >= jams ? 1 : 0);
                }
            }
        }
        // springs, pipes, leaks by numbers: a 8+2, runs 3 of (11-1)/2, then leaks of what is left
        SidePonds z = Due.told("pond a 1 0 8;pond b 1 0 0;pipe a b 3;turn 0 0 2;spring a 2;spring b 1;law leak water/2;");
        z.go(1);
        due.is("a", z.pond(0, 2), 10 - 3 - 3);
        due.is("b", z.pond(1, 2), 1 + 3 - 2);
        // a law that has an error is as none, one beyond is put back
        due.is("error", onceRun("law flow 1/0;law leak 1/0;"), 5);
        due.is("above", onceRun("law flow 9999;"), 40);
        due.is("below", onceRun("law flow 0-1;"), 0);
        due.is("99 at most", ranAndLeaked("law flow 500;"), 800099);
        due.is("99 at most", ranAndLeaked("law leak 500;"), 795000);
        due.is("leaks below 0", onceRun("law leak 0-5;"), 5);
        due.is("leaks above 99", onceRun("law leak 500;law flow 99;"), 0);
        due.is("toll above", onceTolled("law toll 1000;"), 999);
        due.is("toll below", onceTolled("law toll 0-1;"), 0);
        due.is("toll error", onceTolled("law toll 1/0;"), 1);
        due.is("toll none", onceTolled(""), 1);
        // what is jammed is open no more, within the same minute
        SidePonds w = Due.told(ROW + "pond far 1 0 0;pipe far low 9;turn 0 0 1;turn 1 0 1;turn 2 0 1;jam 100;law leak open;spring top 9;"
                + "spring low 9;law flow open;");
        w.go(1);
        due.is("the first of three", w.pond(0, 2), 14 - 3);
        due.is("the second of two", w.pond(1, 2), 3 + 2);
        due.is("the third of one", w.pond(3, 2), 1);
    }

    private static int onceRun(String laws) {
        SidePonds x = Due.told("pond a 1 0 80;pond b 1 0 0;pipe a b 5;turn 0 0 1;" + laws);
        x.go(1);
        return x.pond(1, 2);
    }

    private static int ranAndLeaked(String laws) {
        SidePonds x = Due.told("pond a 1 0 899;pond b 1 0 0;pipe a b 5;turn 0 0 1;" + laws);
        x.go(1);
        return (x.pond(0, 2)) * 1000 + x.pond(1, 2);
    }

    private static int onceTolled(String law) {
        SidePonds x = Due.told("pond a 1 0 5;lock a 5 5;boat a 0;" + law);
        x.go(1);
        return x.count(11);
    }

    private static void promises18and19() {
        due.in("18 ahead, 19 upWhen");
        SidePonds x = Due.told(BOATS + "pipe a b 1;turn 0 50 1;jam 50;law toll 3;");
        due.is("water", x.ahead(3, 0, 0), 3);
        due.is("water now", x.ahead(0, 0, 1), 0);
        due.is("none up", x.ahead(4, 1, -7), 0);
        due.is("up", x.ahead(5, 1, 99), 1);
        due.is("waited", x.ahead(5, 2, 0), 3 + 3 + 5);
        due.is("no jam yet", x.ahead(50, 3, 0), 0);
        due.is("jam 50 as it goes", x.ahead(51, 3, 0), 1);
        due.is("toll", x.ahead(200, 4, 0), 3);
        due.is("up when", x.upWhen(0), 5);
        due.is("never", x.upWhen(2), -2);
        due.is("nothing went by", x.count(6), 0);
        x.go(5);
        due.is("up", x.upWhen(0), 0);
        due.is("up by now counts", x.ahead(0, 1, 0), 1);
        due.is("waited more", x.ahead(1, 2, 0), 2);
        due.is("no more toll", x.ahead(1, 4, 0), 0);
        due.is("no boat", x.upWhen(4), NONE);
        due.is("no boat", x.upWhen(-1), NONE);
        due.is("n", x.ahead(201, 1, 0), NONE);
        due.is("n", x.ahead(-1, 1, 0), NONE);
        due.is("what", x.ahead(1, 5, 0), NONE);
        due.is("what", x.ahead(1, -1, 0), NONE);
        due.is("pond", x.ahead(1, 0, 2), NONE);
        due.is("pond", x.ahead(1, 0, -1), NONE);
        SidePonds y = Due.told("pond a 1 0 0;pond b 1 0 0;pipe a b 1;turn 0 0 20;jam 49;seed 3;");
        due.is("jam 49 as it goes", y.ahead(20, 3, 0), 0);
        SidePonds late = Due.told("pond a 1 0 0;spring a 1;lock a 0 199;law leak minute<1;boat a 0;");
        due.is("at the last", late.upWhen(0), -2);
        late.go(1);
        due.is("199 behind one", late.upWhen(0), 199);
    }

    private static void promise20() {
        due.in("20 joined");
        SidePonds x = Due.told("pond a 2 5 3;pond b 3 2 4;pond c 1 30 0;pond d 4 2 0;");
        due.is("one", x.joined(1, 0) * 100 + x.joined(1, 1), 1302);
        due.is("dry", x.joined(4, 0) * 100 + x.joined(4, 1), 3001);
        due.is("dry: the lowest", x.joined(12, 0) * 100 + x.joined(12, 1), 201);
        due.is("up to a floor: 7 in 7 of area", x.joined(15, 0) * 100 + x.joined(15, 1), 301);
        due.is("above the other floor", x.joined(3, 0) * 100 + x.joined(3, 1), 1303);
        x.fill(2, 2);
        due.is("in b alone", x.joined(6, 0) * 100 + x.joined(6, 1), 401);
        due.is("no ponds", x.joined(0, 0), NONE);
        due.is("no such", x.joined(16, 0), NONE);
        due.is("no such", x.joined(31, 0), NONE);
        due.is("no such", x.joined(MIN, 0), NONE);
        due.is("no what", x.joined(1, 2), NONE);
        due.is("no what", x.joined(1, -1), NONE);
    }

    private static void promises21to23() {
        due.in("21 needs, 22 spare, 23 lift");
        SidePonds x = Due.told("pond a 4 10 9;pond b 3 0 0;lock a 3 8;lock b 9 2;");
        due.is("needs", x.needs(0, 13), 3);
        due.is("has", x.needs(0, 12), 0);
        due.is("below the floor", x.needs(0, 0), 0);
        due.is("far", x.needs(0, 999), 989 * 4 - 9);
        due.is("spare", x.spare(0, 12), 1);
        due.is("all", x.spare(0, 10), 9);
        due.is("all", x.spare(0, 3), 9);
        due.is("not so high", x.spare(0, 13), 0);
        due.is("lift", x.lift(0), 20);
        due.is("none", x.lift(1), 0);
        due.is("no lock", x.lift(2), NONE);
        due.is("no lock", x.lift(-1), NONE);
        for (int height : new int[] {-1, 1000, MAX, MIN}) {
            due.is("height", x.needs(0, height), NONE);
            due.is("height", x.spare(0, height), NONE);
        }
        for (int pond : new int[] {-1, 2, MAX, MIN}) {
            due.is("pond", x.needs(pond, 1), NONE);
            due.is("pond", x.spare(pond, 1), NONE);
        }
    }

    private static void promises24and25() {
        due.in("24 fewest, 25 draws");
        // a chain that water runs down, one pond an opening
        SidePonds x = Due.told("pond a 1 50 9;pond b 1 40 0;pond c 1 30 0;pond d 1 20 0;pond e 1 10 0;pond f 1 0 0;"
                + "pipe e f 1;pipe d e 1;pipe c d 1;pipe b c 1;pipe a b 1;turn 4 0 1;jam 100;law flow 0;");
        due.is("one", x.fewest(1, 49, 0) * 10 + x.fewest(1, 49, 1), 14);
        due.is("four", x.fewest(4, 15, 0) * 10 + x.fewest(4, 15, 1), 44);
        due.is("five are too many", x.fewest(5, 5, 0), -2);
        due.is("five are too many", x.fewest(5, 5, 1), -2);
        due.is("so high", x.fewest(4, 10, 0), 0);
        due.is("so high", x.fewest(4, 10, 1), -2);
        due.is("draws", x.draws(2, 31, 0), 9);
        due.is("of one that has none", x.draws(2, 31, 1), 0);
        due.is("had already", x.draws(2, 30, 0), 0);
        due.is("not by 4", x.draws(5, 1, 0), -2);
        for (int bad : new int[] {-1, 6, MAX, MIN}) {
            due.is("pond", x.fewest(bad, 5, 0), NONE);
            due.is("pond", x.draws(bad, 5, 0), NONE);
            due.is("from", x.draws(0, 5, bad), NONE);
            due.is("what", x.fewest(0, 5, bad), NONE);
        }
        for (int bad : new int[] {-1, 1000, MAX, MIN}) {
            due.is("height", x.fewest(0, bad, 0), NONE);
            due.is("height", x.draws(0, bad, 1), NONE);
        }
        due.is("alike", x.draws(1, 5, 1), NONE);
        x.go(1);
        due.is("jammed", x.fewest(1, 49, 0), -2);
        due.is("jammed", x.draws(1, 49, 0), -2);
        // b gets 4 by pipe 1 from c or 5 by pipe 0 from a; the least from a is nothing
        SidePonds y = Due.told("pond a 1 0 10;pond b 1 0 0;pond c 1 0 8;pipe a b 1;pipe c b 1;");
        due.is("first by numbers", y.fewest(1, 4, 1), 0);
        due.is("from the other one", y.draws(1, 4, 0), 0);
        due.is("from both", y.fewest(1, 6, 0) * 10 + y.fewest(1, 6, 1), 20);
        due.is("c first: 4, then a runs 3", y.draws(1, 7, 0), 3);
        due.is("a first: 5, then c runs 1", y.draws(1, 6, 2), 1);
    }

    private static void promises26and27() {
        due.in("26 highest, 27 apart");
        due.is("no ponds", new SidePonds().highest(0), -2);
        due.is("no ponds", new SidePonds().highest(1), -2);
        due.is("no what", new SidePonds().highest(2), NONE);
        SidePonds x = Due.told("pond a 2 1 3;pond b 4 2 2;pond c 3 2 1;pond d 6 2 2;pond e 1 3 0;pond f 1 3 0;");
        due.is("highest", x.highest(0), 4);
        due.is("lowest", x.highest(1), 2);
        due.is("no what", x.highest(-1), NONE);
        due.is("alike", x.apart(0, 1, 0) * 100 + x.apart(0, 1, 1), 1);
        due.is("apart", x.apart(0, 2, 0) * 100 + x.apart(0, 2, 1), 106);
        due.is("either way", x.apart(2, 0, 0) * 100 + x.apart(2, 0, 1), 106);
        due.is("least terms", x.apart(3, 5, 0) * 100 + x.apart(3, 5, 1), 203);
        due.is("itself", x.apart(3, 3, 0) * 100 + x.apart(3, 3, 1), 1);
        due.is("no pond", x.apart(6, 0, 0), NONE);
        due.is("no pond", x.apart(0, 6, 0), NONE);
        due.is("no pond", x.apart(-1, 0, 1), NONE);
        due.is("no pond", x.apart(0, MIN, 1), NONE);
        due.is("no what", x.apart(0, 1, 2), NONE);
        due.is("no what", x.apart(0, 1, -1), NONE);
    }

    private static void promise28() {
        due.in("28 still");
        SidePonds x = Due.told("pond a 1 0 9;pond b 1 0 0;pond c 1 0 0;pipe b c 1;pipe a b 1;law flow 0;");
        // 9 0 0, 5 4 0, 4 3 2 (b c: 2, a b: 1), 4 3 2
        due.is("rounds", x.still(0, -5), 2);
        due.is("a", x.still(1, 0), 4);
        due.is("b", x.still(1, 1), 3);
        due.is("c", x.still(1, 2), 2);
        due.is("nothing ran", x.pond(0, 2), 9);
        due.is("no pond", x.still(1, 3), NONE);
        due.is("no pond", x.still(1, -1), NONE);
        due.is("no what", x.still(2, 0), NONE);
        due.is("no what", x.still(-1, 0), NONE);
        due.is("jammed", jammedStill(), 0);
        // little goes by a round here: 99 at most
        SidePonds y = Due.told("pond a 19 0 385;pond b 1 86 834;pond c 2 0 747;pond d 19 70 0;pipe c d 1;pipe b c 1;pipe a b 1;");
        due.is("at most", y.still(0, 0), 99);
        int then = y.still(1, 2);
        for (int round = 0; round < 99; round++) {
            int ran = 0;
            for (int pipe = 0; pipe < 3; pipe++) {
                ran += y.draw(pipe, 999);
            }
            due.is("runs", ran > 0, true);
        }
        due.is("behind 99", y.pond(2, 2), then);
        due.is("there is more", y.still(0, 0) > 0, true);
    }

    private static int jammedStill() {
        SidePonds x = Due.told("pond a 1 0 9;pond b 1 0 0;pipe a b 1;turn 0 0 1;jam 100;law flow 0;");
        x.go(1);
        return x.still(0, 0);
    }

    private static void promises29and30() {
        due.in("29 reach, 30 pass");
        SidePonds x = Due.told("pond a 1 0 0;pond b 1 0 0;pond c 1 0 0;pond d 1 0 0;pond e 1 0 0;pipe a b 9;pipe c b 4;"
                + "pipe c a 3;pipe c d 8;pipe d a 2;turn 1 0 1;jam 100;");
        due.is("reach", x.reach(0), 15);
        due.is("reach", x.reach(3), 15);
        due.is("alone", x.reach(4), 16);
        due.is("pass", x.pass(1, 3), 9);
        due.is("back", x.pass(3, 1), 9);
        due.is("out of a", x.pass(0, 2), 9);
        due.is("nowhere", x.pass(0, 4), 0);
        x.go(1);
        due.is("one is jammed", x.pass(1, 3), 5);
        due.is("reach", x.reach(1), 15);
        due.is("alike", x.pass(1, 1), NONE);
        for (int bad : new int[] {-1, 5, MAX, MIN}) {
            due.is("pond", x.reach(bad), NONE);
            due.is("from", x.pass(bad, 0), NONE);
            due.is("to", x.pass(0, bad), NONE);
        }
        SidePonds y = Due.told("pond a 1 0 0;pond b 1 0 0;pond c 1 0 0;pipe a b 1;pipe b c 1;turn 0 0 1;jam 100;");
        y.go(1);
        due.is("cut off", y.reach(0), 1);
        due.is("cut off", y.reach(2), 6);
        due.is("cut off", y.pass(0, 2), 0);
    }

    private static void promise31() {
        due.in("31 lockfuls");
        SidePonds x = Due.told("pond a 3 0 59;pond b 1 0 999;lock a 1 5;lock b 5 5;");
        due.is("a", x.lockfuls(0, 0), 4);
        due.is("b", x.lockfuls(1, 0), 83);
        due.is("no lift", x.lockfuls(0, 1), 999);
        due.is("no pond", x.lockfuls(2, 0), NONE);
        due.is("no pond", x.lockfuls(-1, 1), NONE);
        due.is("no lock", x.lockfuls(0, 2), NONE);
        due.is("no lock", x.lockfuls(0, -1), NONE);
        SidePonds y = Due.told("pond a 1 0 999;lock a 1 2;");
        y.fill(0, 99);
        due.is("more than 999", y.lockfuls(0, 0), 1098);
    }

    private static void promise32() {
        due.in("32 game");
        for (int water = 0; water < 12; water++) {
            SidePonds x = Due.told("pond a 2 3 " + water + ";");
            due.is("to the bottom", x.game(0, 0, 0), water % 4 == 0 ? 1 : 0);
            due.is("to the bottom", x.game(0, 3, 1), water % 4 == 0 ? -2 : water % 4);
            int over = water - 4;
            due.is("to 5", x.game(0, 5, 0), over < 0 ? 2 : over % 4 == 0 ? 1 : 0);
            due.is("to 5", x.game(0, 5, 1), over < 0 || over % 4 == 0 ? -2 : over % 4);
        }
        SidePonds x = Due.told("pond a 2 3 5;");
        due.is("no what", x.game(0, 0, 2), NONE);
        due.is("no what", x.game(0, 0, -1), NONE);
        due.is("no height", x.game(0, 1000, 0), NONE);
        due.is("no height", x.game(0, -1, 0), NONE);
        due.is("no pond", x.game(1, 0, 0), NONE);
        due.is("no pond", x.game(-1, 0, 0), NONE);
        due.is("nobody", x.game(0, 999, 0), 2);
    }

    private static void promises33and34() {
        due.in("33 rests, 34 rest");
        // open/open: 0 and 0; open alone 1, the other 2; both shut 0 and 0
        SidePonds x = Due.told("pond a 1 0 0;pond b 1 0 9;pond c 1 0 200;pond d 1 0 210;pond e 1 0 20;");
        due.is("two", x.rests(0, 1), 2);
        due.is("first open", x.rest(0, 1, 0), 1);
        due.is("second open", x.rest(0, 1, 1), 10);
        due.is("no third", x.rest(0, 1, 2), -2);
        // c 200, d 210: open/open 21, 20; c shuts alone 22, d 1; d shuts alone 23, c 1; shut 10, 10
        due.is("both shut", x.rests(2, 3) * 100 + x.rest(2, 3, 0), 111);
        // e 20: open/open e has 0 (of b); e 20 and 20 shut: 1 each
        due.is("alike at 20", x.rests(4, 1), 2);
        due.is("alike at 20", x.rest(4, 1, 1), 10);
        due.is("none", x.rest(4, 1, 2), -2);
        for (int bad : new int[] {-1, 5, MAX, MIN}) {
            due.is("one", x.rests(bad, 0), NONE);
            due.is("other", x.rests(0, bad), NONE);
            due.is("one", x.rest(bad, 0, 0), NONE);
            due.is("other", x.rest(0, bad, 9), NONE);
        }
        due.is("alike", x.rests(1, 1), NONE);
        due.is("alike", x.rest(1, 1, 0), NONE);
        due.is("k", x.rest(0, 1, -1), NONE);
        due.is("k", x.rest(0, 1, MAX), -2);
    }

    private static void promise35() {
        due.in("35 holds");
        SidePonds x = Due.told("jam 1;");
        due.is("6", x.holds(6, 0), 941480149401L);
        due.is("6", x.holds(6, 1), 1000000000000L);
        due.is("0", x.holds(0, 0) * 10 + x.holds(0, 1), 11);
        SidePonds y = Due.told("jam 75;");
        due.is("3", y.holds(3, 0) * 100 + y.holds(3, 1), 164);
        SidePonds z = Due.told("jam 100;");
        due.is("0", z.holds(0, 0) * 10 + z.holds(0, 1), 11);
        due.is("1", z.holds(1, 0) * 10 + z.holds(1, 1), 1);
        due.is("n", x.holds(7, 0), NONE);
        due.is("n", x.holds(-1, 0), NONE);
        due.is("what", x.holds(1, 2), NONE);
        due.is("what", x.holds(1, -1), NONE);
    }

    private static void promises36to39() {
        due.in("36 see, 37 strike, 38 known, 39 leaks");
        // a loses its leak each minute, b gets what runs
        SidePonds x = Due.told("pond a 1 50 100;pond b 1 0 0;pipe a b 10;turn 0 1 1;law leak 3;");
        due.is("all", x.leaks(0), 1023);
        due.is("fact 0", x.see(1, 0, 96, true), 0);
        due.is("at most 4", x.leaks(0), 0b11111);
        due.is("of b: a leaks by 3", x.leaks(1), 1023);
        due.is("fact 1", x.see(1, 0, 99, false), 1);
        due.is("2 to 4", x.leaks(0), 0b11100);
        due.is("fact 2", x.see(2, 1, 8, true), 2);
        due.is("b by its own leak of 3 has 7", x.leaks(0), 0);
        due.is("b: at most 2", x.leaks(1), 0b111);
        due.is("strike the first", x.strike(2), 3);
        due.is("as before", x.leaks(0), 0b11100);
        due.is("strike what strikes", x.strike(3), 4);
        due.is("counts again", x.leaks(0), 0);
        due.is("by 4", x.known(4), true);
        due.is("by 4", x.count(14), 4);
        due.is("struck", x.leaks(0), 0b11100);
        due.is("by 1", x.known(1), true);
        due.is("the first alone", x.leaks(0), 0b11111);
        due.is("by none", x.known(0), true);
        due.is("none", x.leaks(0), 1023);
        due.is("no 6", x.known(6), false);
        due.is("no -2", x.known(-2), false);
        due.is("still none", x.count(14), 0);
        due.is("by 5", x.known(5), true);
        due.is("one more", x.see(60, 0, 9999, true), 5);
        due.is("not of these", x.count(14), 5);
        due.is("by all", x.known(-1), true);
        due.is("by all", x.count(14), 6);
        due.is("to come", x.strike(5), 6);
        due.is("to come", x.count(14), 7);
        due.is("facts", x.count(13), 7);
        // nothing done by call counts
        x.spill(0, 99);
        x.go(5);
        x.known(1);
        due.is("from the text on", x.leaks(0), 0b11111);
        due.is("no pond", x.leaks(2), NONE);
        due.is("no pond", x.leaks(-1), NONE);
        due.is("minutes", x.see(0, 0, 0, true), NONE);
        due.is("minutes", x.see(61, 0, 0, true), NONE);
        due.is("pond", x.see(1, 2, 0, true), NONE);
        due.is("pond", x.see(1, -1, 0, true), NONE);
        due.is("water", x.see(1, 0, -1, true), NONE);
        due.is("water", x.see(1, 0, 10000, true), NONE);
        due.is("strike", x.strike(7), NONE);
        due.is("strike", x.strike(-1), NONE);
        for (int i = 7; i < 24; i++) {
            due.is("more", i % 2 == 0 ? x.see(60, 1, 9999, false) : x.strike(0), i);
        }
        due.is("the first is struck", x.known(-1), true);
        due.is("the first is struck", x.leaks(0) == 0b11111, false);
        x.known(1);
        due.is("struck by none of the first", x.leaks(0), 0b11111);
        due.is("full", x.see(1, 0, 0, true), NONE);
        due.is("full", x.strike(0), NONE);
        due.is("by 24", x.known(24), true);
        due.is("by 25", x.known(25), false);
    }

    private static void promise40() {
        due.in("40 ask");
        SidePonds x = Due.told("pond a 1 0 0;pond b 1 0 5;pond c 1 0 0;pond d 1 0 0;spring c 4;law leak 2;");
        due.is("dry: nothing to learn", x.ask(0, 0) * 100 + x.ask(0, 1), 110);
        // b has 5 4 3 2 1 0 0 0 0 0 behind one minute
        due.is("b", x.ask(1, 0) * 100 + x.ask(1, 1), 105);
        // c: 4 3 2 1 0 .. behind one; 8 6 4 2 0 .. behind two: no better
        due.is("c", x.ask(2, 0) * 100 + x.ask(2, 1), 106);
        x.see(1, 1, 3, true);
        due.is("of 0, 1, 2", x.ask(1, 0) * 100 + x.ask(1, 1), 101);
        x.see(1, 1, 3, false);
        due.is("none", x.ask(1, 0) * 100 + x.ask(1, 1), 100);
        due.is("no what", x.ask(0, 2), NONE);
        due.is("no what", x.ask(0, -1), NONE);
        due.is("no pond", x.ask(4, 0), NONE);
        due.is("no pond", x.ask(-1, 0), NONE);
        // springs fill a by 9 a minute: by 0 .. 9 it differs from the first on; with much water spilt by a law of b's it comes later
        SidePonds y = Due.told("pond a 1 90 0;pond b 1 0 0;pipe a b 99;turn 0 0 20;spring a 9;law leak 99;");
        due.is("all runs away till minute 21", y.ask(0, 0) * 100 + y.ask(0, 1), 2101);
        String drained = "pond a 1 90 0;pond b 1 0 0;pipe a b 99;spring a 9;law leak 99;";
        SidePonds early = Due.told(drained + "turn 0 0 1;");
        due.is("behind two", early.ask(0, 0) * 100 + early.ask(0, 1), 201);
        SidePonds late = Due.told(drained + "turn 0 0 20;turn 0 20 20;turn 0 40 19;");
        due.is("behind 60", late.ask(0, 0) * 100 + late.ask(0, 1), 6001);
        SidePonds never = Due.told(drained + "turn 0 0 20;turn 0 20 20;turn 0 40 20;");
        due.is("not by then", never.ask(0, 0) * 100 + never.ask(0, 1), 110);
    }

    private static void promise41() {
        due.in("41 chance");
        String two = "pond a 1 0 0;pond b 1 0 0;pond c 1 0 0;pipe a b 1;pipe b c 1;turn 0 0 20;turn 1 1 3;";
        for (int jam : new int[] {3, 20, 60}) {
            SidePonds x = Due.told(two + "jam " + jam + ";");
            for (int seed : new int[] {0, 5, 123456, MAX}) {
                for (int n : new int[] {1, 3, 9, 99}) {
                    due.is("chance", x.chance(seed, n, 0), drawnTen(seed, jam, n, 0));
                    due.is("chance", x.chance(seed, n, 1), drawnTen(seed, jam, n, 1));
                }
            }
        }
        SidePonds sure = Due.told(two + "jam 100;");
        due.is("sure", sure.chance(1, 1, 0), 10);
        due.is("not yet open", sure.chance(1, 1, 1), 0);
        sure.go(1);
        due.is("jammed already", sure.chance(1, 1, 0), 10);
        due.is("never", Due.told(two).chance(1, 99, 0), 0);
        due.is("seed", sure.chance(-1, 1, 0), NONE);
        due.is("n", sure.chance(1, 0, 0), NONE);
        due.is("n", sure.chance(1, 100, 0), NONE);
        due.is("pipe", sure.chance(1, 1, 2), NONE);
        due.is("pipe", sure.chance(1, 1, -1), NONE);
        due.is("nothing went by", sure.count(6), 1);
    }

    /** As the document tells it: pipe 0 is turned on in minutes 0 .. 19, pipe 1 in 1 .. 3. */
    private static int drawnTen(int seed, int jam, int n, int pipe) {
        long last = seed;
        int times = 0;
        for (int time = 0; time < 10; time++) {
            boolean[] jammed = new boolean[2];
            for (int minute = 0; minute < n; minute++) {
                for (int k = 0; k < 2; k++) {
                    boolean turned = k == 0 ? minute < 20 : minute >= 1 && minute <= 3;
                    if (turned && !jammed[k]) {
                        last = (last * 1103515245L + 12345L) % 2147483648L;
                        jammed[k] = last / 65536 % 100 < jam;
                    }
                }
            }
            times += jammed[pipe] ? 1 : 0;
        }
        return times;
    }

    private static void promise42() {
        due.in("42 tried");
        // b rises by 5 a minute through pipe 0 once, as it jams; needs 10
        SidePonds x = Due.told("pond a 1 90 50;pond b 1 0 0;lock b 0 10;pipe a b 5;turn 0 1 9;jam 50;boat b 0;");
        due.is("jams", x.ahead(9, 1, 0), 0);
        due.is("nothing jams", x.tried(0, 0, 2), 0);
        due.is("nothing jams", x.tried(0, 0, 3), 1);
        due.is("jams", x.tried(1, 0, 9), 0);
        due.is("all open, jammed or not", x.tried(4, 0, 200), 0);
        due.is("n", x.tried(0, 0, 201), NONE);
        due.is("n", x.tried(0, 0, -1), NONE);
        due.is("what", x.tried(5, 0, 1), NONE);
        due.is("what", x.tried(-1, 0, 1), NONE);
        due.is("i", x.tried(0, 1, 1), NONE);
        due.is("i", x.tried(4, -1, 1), NONE);
        due.is("pipe", x.tried(2, 1, 1), NONE);
        due.is("pipe", x.tried(2, -1, 1), NONE);
        x.go(2);
        due.is("what is jammed stays", x.tried(0, 0, 50), x.pipe(0, 4) == 1 ? 0 : 1);
        // in at once; without leaks it is up in three minutes, by the spring alone
        SidePonds y = Due.told("pond b 1 0 0;pond a 1 0 0;lock b 2 6;boat b 0;spring b 2;law leak 2;pipe b a 9;turn 0 1 20;");
        due.is("leaks", y.ahead(20, 1, 0), 0);
        due.is("nothing leaks, but runs", y.tried(1, 0, 3), 0);
        due.is("pipe never open, but leaks", y.tried(2, 0, 20), 0);
        due.is("no springs", y.tried(3, 0, 20), 0);
        SidePonds z = Due.told("pond b 1 0 0;pond a 1 0 0;lock b 2 6;boat b 0;spring b 2;pipe b a 9;turn 0 1 20;");
        due.is("runs away by half", z.tried(0, 0, 3), 0);
        due.is("pipe never open", z.tried(2, 0, 2), 0);
        due.is("pipe never open", z.tried(2, 0, 3), 1);
        due.is("all open from the first on", z.tried(4, 0, 3), 0);
        // in minute 0 it is in; a pours in only if open in minute 0, jammed in 1
        SidePonds w = Due.told("pond a 1 90 50;pond b 1 0 0;lock b 5 20;pipe a b 5;jam 100;boat b 0;law flow 5*open;");
        due.is("shut", w.tried(0, 0, 50), 0);
        due.is("in by 5, then 10, 15, 20", w.tried(4, 0, 3), 0);
        due.is("in by 5, then 10, 15, 20", w.tried(4, 0, 4), 1);
    }

    private static void promise43() {
        due.in("43 undo");
        SidePonds x = Due.told("pond a 1 0 100;pond b 1 0 0;pipe a b 1;turn 0 0 1;jam 100;");
        for (int i = 1; i <= 25; i++) {
            x.fill(0, i);
            due.is("held", x.count(15), Math.min(20, i));
        }
        int water = 100 + 25 * 26 / 2;
        for (int i = 25; i > 5; i--) {
            due.is("undo", x.undo(), i - 6);
            water -= i;
            due.is("water", x.pond(0, 2), water);
        }
        due.is("no more", x.undo(), NONE);
        due.is("stays", x.pond(0, 2), 115);
        x.draw(0, 10);
        due.is("go of none", x.go(0), 0);
        due.is("undo", x.undo(), 0);
        due.is("water", x.pond(0, 2) * 1000 + x.pond(1, 2), 115000);
        x.draw(0, 10);
        x.go(1);
        due.is("a minute went by", x.undo(), NONE);
        x.mend(0);
        x.draw(0, 999);
        x.spill(1, 1);
        due.is("undo", x.undo(), 2);
        due.is("undo", x.undo(), 1);
        due.is("not jammed", x.pipe(0, 4), 0);
        due.is("undo", x.undo(), 0);
        due.is("jammed", x.pipe(0, 4), 1);
    }

    private static void promises44and45() {
        due.in("44 keep, 45 back");
        SidePonds x = Due.told(BOATS + "pipe a b 1;turn 0 0 20;jam 37;seed 11;law toll 7;");
        due.is("none", x.back(), NONE);
        x.go(4);
        x.fill(1, 7);
        due.is("keep", x.keep(), 4);
        due.is("keeping undoes nothing", x.count(15), 1);
        String kept = answers(x);
        x.go(30);
        String later = answers(x);
        x.see(1, 0, 0, true);
        x.known(0);
        x.feed(0, 0, 0, 0, 0);
        due.is("back", x.back(), 4);
        due.is("as kept", answers(x).equals(kept), true);
        due.is("nothing to undo", x.undo(), NONE);
        due.is("facts stay", x.count(13), 1);
        due.is("known stays", x.count(14), 0);
        due.is("the tape stays", x.feed(0, 0, 0, 0, 0), 40);
        x.go(30);
        due.is("the same numbers again", answers(x).equals(later), true);
        due.is("back again", x.back(), 4);
        x.go(1);
        due.is("in its place", x.keep(), 5);
        x.go(1);
        due.is("the later one", x.back(), 5);
        x.fill(0, 1);
        due.is("back", x.back(), 5);
        due.is("nothing to undo", x.undo(), NONE);
    }

    private static String answers(SidePonds x) {
        StringBuilder all = new StringBuilder();
        for (int what = 6; what < 13; what++) {
            all.append(x.count(what)).append(' ');
        }
        for (int i = 0; i < 4; i++) {
            for (int what = 0; what < 5; what++) {
                all.append(x.boat(i, what)).append(' ').append(x.pipe(i, what)).append(' ').append(x.level(i, what)).append(' ');
            }
        }
        return all.toString();
    }

    private static void promise46() {
        due.in("46 count");
        SidePonds x = Due.told(BOATS + "pipe a b 1;turn 0 0 20;turn 0 5 1;jam 100;law toll 7*boats;law leak 0;");
        x.go(3);
        x.fill(1, 3);
        x.see(1, 0, 0, true);
        // a: 1 2 3 of the spring; b's floor is 5, dry; boat 0 in, boat 2 waits at b
        int[] counts = {2, 2, 1, 2, 4, 4, 3, 6, 1, 0, 2 + 1 + 3, 0, 1, 1, 1, 1};
        for (int what = 0; what < counts.length; what++) {
            due.is("count(" + what + ")", x.count(what), counts[what]);
        }
        x.go(2);
        due.is("up", x.count(9), 1);
        due.is("toll", x.count(11), 7);
        due.is("in", x.count(8), 0);
        due.is("no what", x.count(16), NONE);
        due.is("no what", x.count(-1), NONE);
        due.is("no what", x.count(MAX), NONE);
        due.is("no what", x.count(MIN), NONE);
    }

    public static void main(String[] args) {
        promise1();
        promise2();
        promises3and4();
        promise5();
        promise6();
        promise7();
        promise8();
        promises9and10();
        promise11();
        promise12();
        promise13();
        promises14and15();
        promise16();
        promise17();
        promises18and19();
        promise20();
        promises21to23();
        promises24and25();
        promises26and27();
        promise28();
        promises29and30();
        promise31();
        promise32();
        promises33and34();
        promise35();
        promises36to39();
        promise40();
        promise41();
        promise42();
        promise43();
        promises44and45();
        promise46();
        due.end();
    }
}
