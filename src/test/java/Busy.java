/**
 * An object with something of everything (JAMMED PIPES, BOATS that wait, are IN and UP, an IMAGE, calls to undo,
 * FACTS, bytes on the TAPE), and all that can be seen of an object, to tell whether a call changed anything.
 */
final class Busy {
    static final String TEXT = "pond a 2 10 40;pond b 3 8 0;pond c 4 0 9;pond d 1 30 99;lock b 12 16;lock c 3 5;"
        + "pipe a b 7;pipe b c 5;pipe d a 9;turn 0 0 9;turn 0 14 20;turn 1 2 20;turn 1 22 9;turn 2 4 9;turn 2 14 20;"
        + "boat b 0;boat c 1;boat c 2;spring a 3;spring d 9;jam 25;seed 2652;"
        + "law flow wide-1;law leak water/20+1;law toll boats+floor;";

    private Busy() {
    }

    /** Without bytes on the TAPE. */
    static SidePonds canal() {
        return canal(true);
    }

    /** Without bytes on the TAPE, and with an IMAGE or without. */
    static SidePonds canal(boolean withImage) {
        SidePonds x = Due.told(TEXT);
        x.go(9);
        if (withImage) {
            x.keep();
        }
        x.go(4);
        x.fill(3, 9);
        x.draw(0, 2);
        x.mend(2);
        x.spill(2, 1);
        x.see(2, 0, 40, true);
        x.see(1, 1, 4, true);
        x.strike(0);
        x.see(7, 2, 9, false);
        x.known(3);
        return x;
    }

    static SidePonds withTape() {
        return withTape(canal());
    }

    static SidePonds withTape(SidePonds x) {
        Due.feed(x, "seed 9;pond zz 1 2 3;pond yy 1 2");
        return x;
    }

    /** All but the TAPE; the FAULT if it is asked for. Calls are undone, MINUTES go by and so on by it. */
    static String all(SidePonds x, boolean withFault) {
        StringBuilder b = new StringBuilder();
        if (withFault) {
            b.append(x.fault(0)).append(' ').append(x.fault(1)).append(' ');
        }
        addTold(b, x);
        addState(b.append("now "), x);
        b.append("leaks ");
        for (int pond = 0; pond < x.count(0); pond++) {
            b.append(x.leaks(pond)).append(' ');
        }
        addUndone(b.append("undone "), x);
        addJams(b.append("later "), x);
        addState(b, x);
        addFacts(b.append("facts "), x);
        b.append("back ").append(x.back()).append(' ');
        addState(b, x);
        addJams(b.append("later "), x);
        return b.toString();
    }

    /** The TAPE, too: how many bytes it has ahead of all else, what they are behind it, as a TEXT ends all. */
    static String whole(SidePonds x) {
        int held = x.feed(0x20202020, 0x20202020, 0x20202020, 0x20202020, 0x20202020);
        StringBuilder b = new StringBuilder("tape ").append(held).append(' ').append(all(x, true));
        b.append(x.text(held < 0 ? 700 : held)).append(' ').append(x.fault(0)).append(' ').append(x.fault(1)).append(' ');
        b.append(x.count(0)).append(x.named(Due.letters("zz")));
        return b.toString();
    }

    private static void addTold(StringBuilder b, SidePonds x) {
        for (int pond = 0; pond < x.count(0); pond++) {
            b.append(x.pond(pond, 0)).append(' ').append(x.pond(pond, 1)).append(' ').append(x.pond(pond, 3)).append(' ');
            b.append(x.pond(pond, 4)).append(' ').append(x.law(1, pond)).append(' ');
        }
        for (int lock = 0; lock < x.count(1); lock++) {
            b.append(x.lock(lock, 0)).append(' ').append(x.lock(lock, 1)).append(' ').append(x.lock(lock, 2)).append(' ');
        }
        for (int pipe = 0; pipe < x.count(2); pipe++) {
            b.append(x.pipe(pipe, 0)).append(' ').append(x.pipe(pipe, 1)).append(' ').append(x.pipe(pipe, 2)).append(' ');
            b.append(x.pipe(pipe, 3)).append(' ').append(x.law(0, pipe)).append(' ');
        }
        for (int boat = 0; boat < x.count(4); boat++) {
            b.append(x.boat(boat, 0)).append(' ').append(x.boat(boat, 1)).append(' ').append(x.law(2, boat)).append(' ');
        }
    }

    private static void addState(StringBuilder b, SidePonds x) {
        for (int what = 0; what < 16; what++) {
            b.append(x.count(what)).append(' ');
        }
        addWater(b, x);
        for (int boat = 0; boat < x.count(4); boat++) {
            b.append(x.boat(boat, 2)).append(x.boat(boat, 3)).append(' ');
        }
    }

    private static void addWater(StringBuilder b, SidePonds x) {
        for (int pond = 0; pond < x.count(0); pond++) {
            b.append(x.pond(pond, 2)).append(' ');
        }
        for (int pipe = 0; pipe < x.count(2); pipe++) {
            b.append(x.pipe(pipe, 4));
        }
        b.append(' ');
    }

    private static void addUndone(StringBuilder b, SidePonds x) {
        for (int i = 0; i < 25; i++) {
            int left = x.undo();
            b.append(left).append(' ').append(x.count(7)).append(' ').append(x.count(12)).append(' ');
            if (left <= 0) {
                addWater(b, x);
            }
            if (left < 0) {
                return;
            }
        }
    }

    /** Which of the first PIPES jam in the next MINUTES, as the numbers come. */
    private static void addJams(StringBuilder b, SidePonds x) {
        for (int minute = 0; minute < 6; minute++) {
            for (int pipe = 0; pipe < 3; pipe++) {
                b.append(x.mend(pipe) ? 1 : 0);
            }
            b.append(x.go(1)).append(' ');
        }
    }

    private static void addFacts(StringBuilder b, SidePonds x) {
        for (int n = x.count(13); n >= 0; n--) {
            b.append(x.known(n)).append(' ');
            if (x.count(0) > 0) {
                b.append(x.leaks(0)).append(' ');
            }
        }
    }
}
