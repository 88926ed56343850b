import java.util.NoSuchElementException;

/** Ponds of a canal, their pipes, locks and boats, told as a text; ../shared/DOC.md numbers what is promised. */
public final class SidePonds {
    public static final int NONE = -1;

    /** The answer where what is asked of exists, but has none of it. */
    private static final int WITHOUT = -2;
    private static final long ERROR = Long.MIN_VALUE;

    private static final int MOST_BYTES = 700;
    private static final int MOST_PONDS = 7;
    private static final int MOST_LOCKS = 3;
    private static final int MOST_PIPES = 10;
    private static final int MOST_TURNS = 12;
    private static final int MOST_BOATS = 8;
    private static final int MOST_KNOTS = 64;
    private static final int MOST_BRACKETS = 8;
    private static final int MOST_LETTERS = 6;
    private static final int MOST_NUMBER = 9999;
    private static final int MOST_FACTS = 24;
    private static final int MOST_UNDONE = 20;
    private static final int MOST_OPENINGS = 4;
    private static final int MOST_ROUNDS = 99;
    private static final int MOST_AHEAD = 200;
    private static final int MOST_UP_WHEN = 199;
    private static final int MOST_HEIGHT = 999;
    private static final int MOST_SPAN = 60;
    private static final int LAST_MINUTE = 9800;
    private static final int FULL = 9999;
    /** A turn begins in MINUTE 99 at the latest, for 20 MINUTES at most. */
    private static final int TURN_MINUTES = 119;
    private static final int LEAKS_TRIED = 10;

    private static final int WAITS = 0;
    private static final int IN = 1;
    private static final int UP = 2;

    /** The words of the language; the kind of such a word is its number in this row. */
    private static final String WORDS =
            "pond lock pipe turn boat spring jam seed law flow leak toll or and not area floor water wide open boats minute ";
    private static final int POND = 0;
    private static final int LOCK = 1;
    private static final int PIPE = 2;
    private static final int TURN = 3;
    private static final int BOAT = 4;
    private static final int SPRING = 5;
    private static final int JAM = 6;
    private static final int SEED = 7;
    private static final int LAW = 8;
    private static final int FLOW = 9;
    private static final int TOLL = 11;
    private static final int OR = 12;
    private static final int AND = 13;
    private static final int NOT = 14;
    private static final int AREA = 15;
    private static final int MINUTE = 21;
    private static final int OWN = 22;
    private static final int NUMBER = 23;

    /** The signs of one character; the kind of such a sign is FIRST_SIGN and its place in this row. */
    private static final String SIGNS = ";()+-*/=<>";
    private static final int FIRST_SIGN = 24;
    private static final int SEMICOLON = 24;
    private static final int BRACKET = 25;
    private static final int BRACKET_END = 26;
    private static final int PLUS = 27;
    private static final int MINUS = 28;
    private static final int TIMES = 29;
    private static final int OVER = 30;
    private static final int EQUAL = 31;
    private static final int LESS = 32;
    private static final int MORE = 33;
    private static final int AT_MOST = 34;
    private static final int AT_LEAST = 35;
    private static final int UNLIKE = 36;
    private static final int END = 37;
    private static final int BAD = 38;

    private static final int RULES = 3;
    private static final int FLOW_RULE = 0;
    private static final int LEAK_RULE = 1;
    private static final int TOLL_RULE = 2;

    private static final int STRANGE = 1;
    private static final int TOO_MUCH = 2;
    private static final int TOLD_ALREADY = 3;
    private static final int NOT_TOLD = 4;
    private static final int TO_ITSELF = 5;

    private final Reader reader;
    private final Scene now;
    private final Scene image;
    private final Scene trial;
    private final Minutes minutes;
    private final Openings openings;
    private final Facts facts;
    private final History history;
    /** What a POND has by each leak behind each MINUTE, as weigh left it. */
    private final int[] seen;
    private Canal canal;
    private boolean imageKept;
    private int latestFault;
    private int latestPlace;

    public SidePonds() {
        reader = new Reader();
        canal = new Canal();
        now = new Scene(canal);
        image = new Scene(canal);
        trial = new Scene(canal);
        minutes = new Minutes();
        openings = new Openings();
        facts = new Facts();
        history = new History();
        seen = new int[LEAKS_TRIED * MOST_SPAN];
        latestPlace = NONE;
    }

    // ---- the text

    public int feed(int a, int b, int c, int d, int e) {
        Tape tape = reader.tape;
        if (!tape.hasRoom()) {
            return NONE;
        }
        tape.append(a);
        tape.append(b);
        tape.append(c);
        tape.append(d);
        tape.append(e);
        return tape.held;
    }

    public int text(int n) {
        if (n < 0 || n > reader.tape.held) {
            return WITHOUT;
        }
        reader.read(n);
        latestFault = reader.fault;
        latestPlace = reader.place;
        if (latestFault != 0) {
            return NONE;
        }
        Canal told = reader.canal;
        reader.canal = canal;
        canal = told;
        now.begin(canal);
        imageKept = false;
        facts.clear();
        history.clear();
        return reader.lines;
    }

    public int fault(int what) {
        switch (what) {
            case 0: return latestFault;
            case 1: return latestPlace;
            default: return NONE;
        }
    }

    public int named(int letters) {
        return canal.pondNamed(letters);
    }

    // ---- what was told, and how it is now

    public int pond(int pond, int what) throws IndexOutOfBoundsException, NoSuchElementException {
        if (!isPond(pond)) {
            throw new IndexOutOfBoundsException("no such pond");
        }
        switch (what) {
            case 0: return canal.area[pond];
            case 1: return canal.floor[pond];
            case 2: return now.water[pond];
            case 3: return canal.spring[pond];
            case 4: return orWithout(canal.locks.ofPond(pond));
            default: throw new NoSuchElementException("no such what");
        }
    }

    public int level(int pond, int what) {
        if (!isPond(pond) || !isHalf(what)) {
            return NONE;
        }
        return (int) inLeastTerms(now.raised(pond), canal.area[pond], what);
    }

    public int pipe(int pipe, int what) {
        if (!isPipe(pipe)) {
            return NONE;
        }
        switch (what) {
            case 0: return canal.one[pipe];
            case 1: return canal.other[pipe];
            case 2: return canal.wide[pipe];
            case 3:
                minutes.asItGoes();
                return minutes.openNow(now) >> pipe & 1;
            case 4: return now.jammed >> pipe & 1;
            default: return NONE;
        }
    }

    public int lock(int lock, int what) {
        if (!isLock(lock)) {
            return NONE;
        }
        switch (what) {
            case 0: return canal.locks.pond[lock];
            case 1: return canal.locks.low[lock];
            case 2: return canal.locks.high[lock];
            case 3: return orWithout(now.boatIn(lock));
            default: return NONE;
        }
    }

    public int boat(int boat, int what) {
        if (!isBoat(boat)) {
            return NONE;
        }
        switch (what) {
            case 0: return canal.locks.boatLock[boat];
            case 1: return canal.locks.boatFrom[boat];
            case 2: return now.stage[boat];
            case 3: return now.waited[boat];
            default: return NONE;
        }
    }

    public long law(int what, int its) {
        minutes.asItGoes();
        if (what == FLOW_RULE && isPipe(its)) {
            return minutes.worth(now, FLOW_RULE, now.giver(its), canal.wide[its]);
        }
        if (what == LEAK_RULE && isPond(its)) {
            return minutes.worth(now, LEAK_RULE, its, 0);
        }
        if (what == TOLL_RULE && isBoat(its)) {
            return minutes.worth(now, TOLL_RULE, canal.locks.pondOfBoat(its), 0);
        }
        return ERROR;
    }

    public int runs(int pipe, int what) {
        if (!isPipe(pipe)) {
            return NONE;
        }
        switch (what) {
            case 0: return now.movable(pipe);
            case 1: return now.giver(pipe);
            default: return NONE;
        }
    }

    // ---- what is done by call

    public int draw(int pipe, int most) {
        if (!isPipe(pipe) || most < 1 || most > 999) {
            return NONE;
        }
        if (now.isJammed(pipe)) {
            return WITHOUT;
        }
        history.note(now);
        return now.run(pipe, most);
    }

    public int fill(int pond, int water) {
        if (!isPond(pond) || !isBucket(water)) {
            return NONE;
        }
        history.note(now);
        now.pour(pond, water);
        return now.water[pond];
    }

    public int spill(int pond, int water) {
        if (!isPond(pond) || !isBucket(water)) {
            return NONE;
        }
        if (now.water[pond] < water) {
            return WITHOUT;
        }
        history.note(now);
        now.lose(pond, water);
        return now.water[pond];
    }

    public boolean mend(int pipe) {
        if (!isPipe(pipe) || !now.isJammed(pipe)) {
            return false;
        }
        history.note(now);
        now.jammed &= ~(1 << pipe);
        return true;
    }

    public int go(int n) {
        if (n < 0 || n > MOST_AHEAD || now.minute + n > LAST_MINUTE) {
            return NONE;
        }
        minutes.asItGoes();
        minutes.drawn = true;
        minutes.advance(now, n);
        if (n > 0) {
            history.clear();
        }
        return now.minute;
    }

    // ---- what comes

    public int ahead(int n, int what, int pond) {
        if (n < 0 || n > MOST_AHEAD || (what == 0 && !isPond(pond)) || what < 0 || what > 4) {
            return NONE;
        }
        trial.become(now);
        minutes.asItGoes();
        minutes.advance(trial, n);
        switch (what) {
            case 0: return trial.water[pond];
            case 1: return trial.boatsThatAre(UP);
            case 2: return trial.waitedByAll() - now.waitedByAll();
            case 3: return Integer.bitCount(trial.jammed);
            default: return trial.toll - now.toll;
        }
    }

    public int upWhen(int boat) {
        if (!isBoat(boat)) {
            return NONE;
        }
        trial.become(now);
        minutes.asItGoes();
        for (int n = 0; n <= MOST_UP_WHEN; n++) {
            if (trial.stage[boat] == UP) {
                return n;
            }
            minutes.oneMinute(trial);
        }
        return WITHOUT;
    }

    // ---- levels and heights

    /**
     * Fills the PONDS up to each FLOOR alone; of these levels the least is the true one, as any other
     * leaves out a POND that is lower or counts one that is higher.
     */
    public int joined(int ponds, int what) {
        if (ponds < 1 || ponds >= 1 << canal.ponds || !isHalf(what)) {
            return NONE;
        }
        long above = 0;
        long below = 0;
        for (int top = 0; top < canal.ponds; top++) {
            if ((ponds >> top & 1) == 1) {
                long sum = now.waterOf(ponds) + canal.bedUpTo(ponds, canal.floor[top]);
                long area = canal.areaUpTo(ponds, canal.floor[top]);
                if (below == 0 || sum * below < above * area) {
                    above = sum;
                    below = area;
                }
            }
        }
        return (int) inLeastTerms(above, below, what);
    }

    public int needs(int pond, int height) {
        if (!isPond(pond) || !isHeight(height)) {
            return NONE;
        }
        return Math.max(0, canal.waterFor(pond, height) - now.water[pond]);
    }

    public int spare(int pond, int height) {
        if (!isPond(pond) || !isHeight(height)) {
            return NONE;
        }
        return Math.max(0, now.water[pond] - canal.waterFor(pond, height));
    }

    public int lift(int lock) {
        return isLock(lock) ? canal.liftOf(lock) : NONE;
    }

    public int fewest(int pond, int height, int what) {
        if (!isPond(pond) || !isHeight(height) || !isHalf(what)) {
            return NONE;
        }
        trial.become(now);
        openings.seek(trial, pond, height, pond);
        return what == 0 ? openings.fewestOpened : openings.firstOpened;
    }

    public int draws(int pond, int height, int from) {
        if (!isPond(pond) || !isHeight(height) || !isPond(from) || pond == from) {
            return NONE;
        }
        trial.become(now);
        openings.seek(trial, pond, height, from);
        return openings.leastDrawn;
    }

    public int highest(int what) {
        if (!isHalf(what)) {
            return NONE;
        }
        int found = 0;
        for (int pond = 1; pond < canal.ponds; pond++) {
            int higher = now.higherBy(pond, found);
            if (what == 0 ? higher > 0 : higher < 0) {
                found = pond;
            }
        }
        return canal.ponds == 0 ? WITHOUT : found;
    }

    public int apart(int one, int other, int what) {
        if (!isPond(one) || !isPond(other) || !isHalf(what)) {
            return NONE;
        }
        return (int) inLeastTerms(Math.abs(now.higherBy(one, other)), canal.area[one] * canal.area[other], what);
    }

    public int still(int what, int pond) {
        if (!isHalf(what) || (what == 1 && !isPond(pond))) {
            return NONE;
        }
        trial.become(now);
        int rounds = 0;
        while (rounds < MOST_ROUNDS && trial.runAll() > 0) {
            rounds++;
        }
        return what == 0 ? rounds : trial.water[pond];
    }

    // ---- ways

    public int reach(int pond) {
        if (!isPond(pond)) {
            return NONE;
        }
        int reached = 1 << pond;
        for (int step = 1; step < canal.ponds; step++) {
            reached |= canal.nextTo(reached, now.jammed);
        }
        return reached;
    }

    /** As much can pass as the narrowest cut between the two lets through. */
    public int pass(int from, int to) {
        if (!isPond(from) || !isPond(to) || from == to) {
            return NONE;
        }
        int least = Integer.MAX_VALUE;
        for (int side = 0; side < 1 << canal.ponds; side++) {
            if ((side >> from & 1) == 1 && (side >> to & 1) == 0) {
                least = Math.min(least, canal.wideAcross(side, now.jammed));
            }
        }
        return least;
    }

    public int lockfuls(int pond, int lock) {
        if (!isPond(pond) || !isLock(lock)) {
            return NONE;
        }
        int lockful = canal.liftOf(lock);
        return lockful > 0 ? now.water[pond] / lockful : 999;
    }

    // ---- two who draw by turns, two keepers, odds

    /** Who leaves a multiple of four measures above the height can always do so again, so he wins. */
    public int game(int pond, int height, int what) {
        if (!isPond(pond) || !isHeight(height) || !isHalf(what)) {
            return NONE;
        }
        int over = now.water[pond] - canal.waterFor(pond, height);
        if (over < 0) {
            return what == 0 ? 2 : WITHOUT;
        }
        int first = over % 4;
        if (what == 0) {
            return first > 0 ? 0 : 1;
        }
        return first > 0 ? first : WITHOUT;
    }

    public int rests(int one, int other) {
        if (!isPond(one) || !isPond(other) || one == other) {
            return NONE;
        }
        int found = 0;
        for (int both = 0; both < 4; both++) {
            if (isRest(one, other, both)) {
                found++;
            }
        }
        return found;
    }

    public int rest(int one, int other, int k) {
        if (!isPond(one) || !isPond(other) || one == other || k < 0) {
            return NONE;
        }
        int found = 0;
        for (int both = 0; both < 4; both++) {
            if (isRest(one, other, both)) {
                if (found == k) {
                    return both / 2 * 10 + both % 2;
                }
                found++;
            }
        }
        return WITHOUT;
    }

    public long holds(int n, int what) {
        if (n < 0 || n > 6 || !isHalf(what)) {
            return NONE;
        }
        long above = 1;
        long below = 1;
        for (int i = 0; i < n; i++) {
            above *= 100 - canal.jam;
            below *= 100;
        }
        return inLeastTerms(above, below, what);
    }

    // ---- facts

    public int see(int minutes, int pond, int water, boolean atLeast) {
        if (minutes < 1 || minutes > MOST_SPAN || !isPond(pond) || water < 0 || water > FULL || facts.isFull()) {
            return NONE;
        }
        return facts.add(atLeast ? Facts.AT_LEAST_SO_MUCH : Facts.LESS, minutes, pond, water);
    }

    public int strike(int fact) {
        if (fact < 0 || fact >= facts.told || facts.isFull()) {
            return NONE;
        }
        return facts.add(Facts.STRIKES, 0, fact, 0);
    }

    public boolean known(int n) {
        if (n < Facts.ALL || n > facts.told) {
            return false;
        }
        facts.knownBy = n;
        return true;
    }

    public int leaks(int pond) {
        if (!isPond(pond)) {
            return NONE;
        }
        facts.settle();
        return weigh(pond, facts.lastKnownMinute());
    }

    public int ask(int pond, int what) {
        if (!isPond(pond) || !isHalf(what)) {
            return NONE;
        }
        facts.settle();
        int possible = weigh(pond, MOST_SPAN);
        int when = 1;
        int left = leftAtWorst(possible, 1);
        for (int minute = 2; minute <= MOST_SPAN; minute++) {
            int worst = leftAtWorst(possible, minute);
            if (worst < left) {
                left = worst;
                when = minute;
            }
        }
        return what == 0 ? when : left;
    }

    // ---- chance, what is tried otherwise

    public int chance(int seed, int n, int pipe) {
        if (seed < 0 || n < 1 || n > 99 || !isPipe(pipe)) {
            return NONE;
        }
        int number = seed;
        int times = 0;
        minutes.asItGoes();
        minutes.drawn = true;
        for (int time = 0; time < 10; time++) {
            trial.become(now);
            trial.number = number;
            minutes.advance(trial, n);
            number = trial.number;
            if (trial.isJammed(pipe)) {
                times++;
            }
        }
        return times;
    }

    public int tried(int what, int i, int n) {
        boolean hasSuch = what == 2 ? isPipe(i) : i == 0;
        if (what < 0 || what > 4 || !hasSuch || n < 0 || n > MOST_AHEAD) {
            return NONE;
        }
        trial.become(now);
        minutes.asItGoes();
        minutes.jamming = what != 0;
        minutes.leaking = what != 1;
        minutes.shut = what == 2 ? i : NONE;
        minutes.springing = what != 3;
        minutes.allOpen = what == 4;
        minutes.advance(trial, n);
        return trial.boatsThatAre(UP);
    }

    // ---- undoing, images, counts

    public int undo() {
        return history.takeBack(now) ? history.held : NONE;
    }

    public int keep() {
        image.become(now);
        imageKept = true;
        return now.minute;
    }

    public int back() {
        if (!imageKept) {
            return NONE;
        }
        now.become(image);
        history.clear();
        return now.minute;
    }

    public int count(int what) {
        switch (what) {
            case 0: return canal.ponds;
            case 1: return canal.locks.told;
            case 2: return canal.pipes;
            case 3: return canal.turns;
            case 4: return canal.locks.boats;
            case 5: return canal.laws.length;
            case 6: return now.minute;
            case 7: return now.waterOf(canal.allPonds());
            case 8: return now.boatsThatAre(IN);
            case 9: return now.boatsThatAre(UP);
            case 10: return now.waitedByAll();
            case 11: return now.toll;
            case 12: return Integer.bitCount(now.jammed);
            case 13: return facts.told;
            case 14: return facts.knownCount();
            case 15: return history.held;
            default: return NONE;
        }
    }

    // ---- helpers of the face

    private boolean isPond(int pond) {
        return pond >= 0 && pond < canal.ponds;
    }

    private boolean isPipe(int pipe) {
        return pipe >= 0 && pipe < canal.pipes;
    }

    private boolean isLock(int lock) {
        return lock >= 0 && lock < canal.locks.told;
    }

    private boolean isBoat(int boat) {
        return boat >= 0 && boat < canal.locks.boats;
    }

    /** Whether it asks for one of two things. */
    private static boolean isHalf(int what) {
        return what == 0 || what == 1;
    }

    private static boolean isHeight(int height) {
        return height >= 0 && height <= MOST_HEIGHT;
    }

    private static boolean isBucket(int water) {
        return water >= 1 && water <= 99;
    }

    private static int orWithout(int found) {
        return found == NONE ? WITHOUT : found;
    }

    private static long inLeastTerms(long above, long below, int what) {
        long common = above;
        long rest = below;
        // Euclid's way halves the numbers in every two steps, so 200 are more than any two longs need
        for (int i = 0; i < 200 && rest != 0; i++) {
            long next = common % rest;
            common = rest;
            rest = next;
        }
        if (common == 0) {
            return NONE;
        }
        return (what == 0 ? above : below) / common;
    }

    /** Both: twice the first one's choice and the second one's. */
    private boolean isRest(int one, int other, int both) {
        int first = both / 2;
        int second = both % 2;
        int mine = now.water[one];
        int yours = now.water[other];
        return keeperHas(mine, yours, first, second) >= keeperHas(mine, yours, 1 - first, second)
                && keeperHas(yours, mine, second, first) >= keeperHas(yours, mine, 1 - second, first);
    }

    private static int keeperHas(int own, int others, int choice, int otherChoice) {
        if (choice == 0) {
            return otherChoice == 0 ? others / 10 : 1;
        }
        return otherChoice == 0 ? own / 10 + 2 : own / 20;
    }

    /** The leaks (bits) by which the KNOWN FACTS are so, and in seen what the POND has by each of all leaks. */
    private int weigh(int pond, int span) {
        int possible = 0;
        minutes.asItGoes();
        minutes.leakPond = pond;
        for (int leak = 0; leak < LEAKS_TRIED; leak++) {
            boolean so = true;
            minutes.leakBy = leak;
            trial.begin(canal);
            for (int minute = 1; minute <= span; minute++) {
                minutes.oneMinute(trial);
                so = so && facts.hold(minute, trial.water);
                seen[leak * MOST_SPAN + minute - 1] = trial.water[pond];
            }
            if (so) {
                possible |= 1 << leak;
            }
        }
        return possible;
    }

    /** How many of the possible leaks share the commonest answer behind so many MINUTES. */
    private int leftAtWorst(int possible, int minute) {
        int worst = 0;
        for (int leak = 0; leak < LEAKS_TRIED; leak++) {
            int alike = 0;
            for (int other = 0; other < LEAKS_TRIED; other++) {
                if ((possible >> leak & possible >> other & 1) == 1
                        && seen[leak * MOST_SPAN + minute - 1] == seen[other * MOST_SPAN + minute - 1]) {
                    alike++;
                }
            }
            worst = Math.max(worst, alike);
        }
        return worst;
    }

    // ---- the classes inside

    /** The bytes that were fed, and the tokens of the TEXT that they are. */
    private static final class Tape {
        int held;
        private final int[] bytes = new int[MOST_BYTES];
        private final int[] kinds = new int[MOST_BYTES + 1];
        private final int[] places = new int[MOST_BYTES + 1];
        private final int[] values = new int[MOST_BYTES + 1];
        private int tokens;
        /** The token that is looked at. */
        private int at;

        boolean hasRoom() {
            return held + 20 <= MOST_BYTES;
        }

        void append(int word) {
            for (int shift = 24; shift >= 0 && held < MOST_BYTES; shift -= 8) {
                bytes[held] = word >>> shift & 255;
                held++;
            }
        }

        /** Finds the tokens of the first n bytes, END behind them; nothing is held any more. */
        void open(int n) {
            int length = Math.min(n, held);
            held = 0;
            tokens = 0;
            at = 0;
            int next = 0;
            // each token takes a byte at least
            for (int i = 0; i < MOST_BYTES && next < length; i++) {
                int sign = bytes[next];
                if (sign == 32 || sign == 10) {
                    next++;
                } else if (isLetter(sign)) {
                    next = addWord(next, length);
                } else if (isDigit(sign)) {
                    next = addNumber(next, length);
                } else {
                    next = addSign(next, length);
                }
            }
            add(END, length, 0);
        }

        private void add(int kind, int place, int value) {
            if (tokens <= MOST_BYTES) {
                kinds[tokens] = kind;
                places[tokens] = place;
                values[tokens] = value;
                tokens++;
            }
        }

        private static boolean isLetter(int sign) {
            return sign >= 'a' && sign <= 'z';
        }

        private static boolean isDigit(int sign) {
            return sign >= '0' && sign <= '9';
        }

        private int addWord(int from, int length) {
            int letters = 0;
            int to = from;
            while (to < length && isLetter(bytes[to])) {
                letters = packed(letters, to - from, bytes[to]);
                to++;
            }
            add(to - from > MOST_LETTERS ? BAD : kindOfWord(letters), from, letters);
            return to;
        }

        /** Letters with one more at a place from 0 on; what is behind the last place is left out. */
        private static int packed(int letters, int place, int letter) {
            return place < MOST_LETTERS ? letters | letter - 'a' + 1 << 5 * (MOST_LETTERS - 1 - place) : letters;
        }

        private static int kindOfWord(int letters) {
            int word = 0;
            int from = 0;
            int its = 0;
            for (int i = 0; i < WORDS.length(); i++) {
                if (WORDS.charAt(i) != ' ') {
                    its = packed(its, i - from, WORDS.charAt(i));
                } else if (its == letters) {
                    return word;
                } else {
                    word++;
                    from = i + 1;
                    its = 0;
                }
            }
            return OWN;
        }

        private int addNumber(int from, int length) {
            int value = 0;
            int to = from;
            while (to < length && isDigit(bytes[to])) {
                // a million is beyond every number of the language, so more digits add nothing
                value = Math.min(1000000, value * 10 + bytes[to] - '0');
                to++;
            }
            add(NUMBER, from, value);
            return to;
        }

        private int addSign(int from, int length) {
            int sign = SIGNS.indexOf((char) bytes[from]);
            int single = sign < 0 ? BAD : FIRST_SIGN + sign;
            int both = from + 1 < length ? withSecond(single, bytes[from + 1]) : single;
            add(both, from, 0);
            return both == single ? from + 1 : from + 2;
        }

        /** The kind of a sign and the one right behind it, if that one belongs to it. */
        private static int withSecond(int single, int behind) {
            if (single == LESS && behind == '>') {
                return UNLIKE;
            }
            if (single == LESS && behind == '=') {
                return AT_MOST;
            }
            return single == MORE && behind == '=' ? AT_LEAST : single;
        }

        int kind() {
            return kinds[at];
        }

        int place() {
            return places[at];
        }

        /** The number, or the letters of the word. */
        int value() {
            return values[at];
        }

        /** To the next token; END stays. */
        void advance() {
            if (at + 1 < tokens) {
                at++;
            }
        }
    }

    /** Reads a TEXT into a canal of its own; the first FAULT ends all that it does. */
    private static final class Reader {
        private static final int FIRST_RANK = 0;
        private static final int NOT_RANK = 2;
        private static final int COMPARED_RANK = 3;
        private static final int PART_RANK = 6;

        final Tape tape = new Tape();
        Canal canal = new Canal();
        int fault;
        int place = NONE;
        int lines;
        private int springsTold;
        private boolean jamTold;
        private boolean seedTold;
        private int knots;
        private int brackets;

        void read(int n) {
            fault = 0;
            place = NONE;
            lines = 0;
            springsTold = 0;
            jamTold = false;
            seedTold = false;
            knots = 0;
            canal.clear();
            tape.open(n);
            for (int i = 0; i < MOST_BYTES && fault == 0 && tape.kind() != END; i++) {
                readLine();
            }
        }

        private void fail(int what, int at) {
            if (fault == 0) {
                fault = what;
                place = at;
            }
        }

        private void readLine() {
            int word = tape.kind();
            if (word > LAW) {
                fail(STRANGE, tape.place());
                return;
            }
            if (canal.hasAllOf(word)) {
                fail(TOO_MUCH, tape.place());
                return;
            }
            if ((word == JAM && jamTold) || (word == SEED && seedTold)) {
                fail(TOLD_ALREADY, tape.place());
                return;
            }
            tape.advance();
            switch (word) {
                case POND: readPond(); break;
                case LOCK: readLock(); break;
                case PIPE: readPipe(); break;
                case TURN: readTurn(); break;
                case BOAT: readBoat(); break;
                case SPRING: readSpring(); break;
                case JAM: readJam(); break;
                case SEED: readSeed(); break;
                default: readLaw(); break;
            }
            take(SEMICOLON);
            lines++;
        }

        private void readPond() {
            int at = tape.place();
            int name = ownWord();
            if (canal.pondNamed(name) != NONE) {
                fail(TOLD_ALREADY, at);
            }
            int area = number(1, 20);
            int floor = number(0, 99);
            int water = number(0, 999);
            if (fault == 0) {
                canal.addPond(name, area, floor, water);
            }
        }

        private void readLock() {
            int at = tape.place();
            int pond = toldPond();
            if (fault == 0 && canal.locks.ofPond(pond) != NONE) {
                fail(TOLD_ALREADY, at);
            }
            int low = number(0, 199);
            int high = number(0, 199);
            if (fault == 0) {
                canal.locks.add(pond, low, high);
            }
        }

        private void readPipe() {
            int one = toldPond();
            int at = tape.place();
            int other = toldPond();
            if (fault == 0 && canal.hasPipe(one, other)) {
                fail(TOLD_ALREADY, at);
            }
            if (fault == 0 && one == other) {
                fail(TO_ITSELF, at);
            }
            int wide = number(1, 99);
            if (fault == 0) {
                canal.addPipe(one, other, wide);
            }
        }

        private void readTurn() {
            int at = tape.place();
            int pipe = number(0, MOST_PIPES - 1);
            if (pipe >= canal.pipes) {
                fail(NOT_TOLD, at);
            }
            int from = number(0, 99);
            int minutes = number(1, 20);
            if (fault == 0) {
                canal.addTurn(pipe, from, minutes);
            }
        }

        private void readBoat() {
            int at = tape.place();
            int pond = toldPond();
            int lock = fault == 0 ? canal.locks.ofPond(pond) : NONE;
            if (lock == NONE) {
                fail(NOT_TOLD, at);
            }
            int from = number(0, 99);
            if (fault == 0) {
                canal.locks.addBoat(lock, from);
            }
        }

        private void readSpring() {
            int at = tape.place();
            int pond = toldPond();
            if (fault == 0 && (springsTold >> pond & 1) == 1) {
                fail(TOLD_ALREADY, at);
            }
            int gives = number(0, 9);
            if (fault == 0) {
                springsTold |= 1 << pond;
                canal.spring[pond] = gives;
            }
        }

        private void readJam() {
            jamTold = true;
            canal.jam = number(0, 100);
        }

        private void readSeed() {
            seedTold = true;
            canal.seed = number(0, 99999);
        }

        private void readLaw() {
            if (tape.kind() < FLOW || tape.kind() > TOLL) {
                fail(STRANGE, tape.place());
                return;
            }
            int rule = tape.kind() - FLOW;
            if (canal.laws.isTold(rule)) {
                fail(TOLD_ALREADY, tape.place());
                return;
            }
            tape.advance();
            brackets = 0;
            canal.laws.begin(rule);
            readRanked(FIRST_RANK);
            canal.laws.end(rule);
        }

        /**
         * One of the kinds of E, from E itself (rank 0) on; each is made of those of the next rank.
         * It goes no deeper than its seven ranks for each of the brackets, of which a ninth is refused.
         */
        private void readRanked(int rank) {
            if (fault != 0) {
                return;
            }
            if (rank >= PART_RANK) {
                readPart();
                return;
            }
            if (rank == NOT_RANK) {
                readDenied();
                return;
            }
            readRanked(rank + 1);
            int most = rank == COMPARED_RANK ? 1 : MOST_BYTES;
            for (int i = 0; i < most && fault == 0 && rankOf(tape.kind()) == rank; i++) {
                int sign = tape.kind();
                takeKnot();
                readRanked(rank + 1);
                canal.laws.add(sign, 0);
            }
        }

        private static int rankOf(int kind) {
            switch (kind) {
                case OR: return 0;
                case AND: return 1;
                case EQUAL: case LESS: case MORE: case AT_MOST: case AT_LEAST: case UNLIKE: return COMPARED_RANK;
                case PLUS: case MINUS: return 4;
                case TIMES: case OVER: return 5;
                default: return NONE;
            }
        }

        private void readDenied() {
            int denied = 0;
            while (denied < MOST_BYTES && fault == 0 && tape.kind() == NOT) {
                takeKnot();
                denied++;
            }
            readRanked(COMPARED_RANK);
            for (int i = 0; i < denied; i++) {
                canal.laws.add(NOT, 0);
            }
        }

        private void readPart() {
            int kind = tape.kind();
            int value = tape.value();
            if ((kind == BRACKET && brackets >= MOST_BRACKETS) || (kind == NUMBER && value > MOST_NUMBER)) {
                fail(TOO_MUCH, tape.place());
            } else if (kind == BRACKET) {
                brackets++;
                tape.advance();
                readRanked(FIRST_RANK);
                take(BRACKET_END);
                brackets--;
            } else if (kind == NUMBER || (kind >= AREA && kind <= MINUTE)) {
                takeKnot();
                canal.laws.add(kind, value);
            } else {
                fail(STRANGE, tape.place());
            }
        }

        private void takeKnot() {
            if (fault != 0) {
                return;
            }
            if (knots >= MOST_KNOTS) {
                fail(TOO_MUCH, tape.place());
                return;
            }
            knots++;
            tape.advance();
        }

        private void take(int kind) {
            if (fault != 0) {
                return;
            }
            if (tape.kind() != kind) {
                fail(STRANGE, tape.place());
                return;
            }
            tape.advance();
        }

        private int number(int least, int most) {
            int at = tape.place();
            int value = tape.value();
            take(NUMBER);
            if (value < least || value > most) {
                fail(TOO_MUCH, at);
            }
            return fault == 0 ? value : 0;
        }

        private int ownWord() {
            int letters = tape.value();
            take(OWN);
            return fault == 0 ? letters : 0;
        }

        private int toldPond() {
            int at = tape.place();
            int pond = canal.pondNamed(ownWord());
            if (pond == NONE) {
                fail(NOT_TOLD, at);
            }
            return pond;
        }
    }

    /** What a TEXT tells. */
    private static final class Canal {
        int ponds;
        final int[] name = new int[MOST_PONDS];
        final int[] area = new int[MOST_PONDS];
        final int[] floor = new int[MOST_PONDS];
        final int[] water = new int[MOST_PONDS];
        final int[] spring = new int[MOST_PONDS];
        int pipes;
        final int[] one = new int[MOST_PIPES];
        final int[] other = new int[MOST_PIPES];
        final int[] wide = new int[MOST_PIPES];
        int turns;
        /** The PIPES (bits) that have a TURN in a MINUTE. */
        private final int[] turned = new int[TURN_MINUTES];
        int jam;
        int seed;
        final Locks locks = new Locks();
        final Laws laws = new Laws();

        void clear() {
            ponds = 0;
            pipes = 0;
            turns = 0;
            for (int minute = 0; minute < TURN_MINUTES; minute++) {
                turned[minute] = 0;
            }
            jam = 0;
            seed = 0;
            locks.clear();
            laws.clear();
        }

        /** Whether no more LINES of such a word can be told. */
        boolean hasAllOf(int word) {
            switch (word) {
                case POND: return ponds >= MOST_PONDS;
                case LOCK: return locks.told >= MOST_LOCKS;
                case PIPE: return pipes >= MOST_PIPES;
                case TURN: return turns >= MOST_TURNS;
                case BOAT: return locks.boats >= MOST_BOATS;
                default: return false;
            }
        }

        void addPond(int itsName, int itsArea, int itsFloor, int itsWater) {
            if (ponds < MOST_PONDS) {
                name[ponds] = itsName;
                area[ponds] = itsArea;
                floor[ponds] = itsFloor;
                water[ponds] = itsWater;
                spring[ponds] = 0;
                ponds++;
            }
        }

        void addPipe(int from, int to, int itsWide) {
            if (pipes < MOST_PIPES) {
                one[pipes] = from;
                other[pipes] = to;
                wide[pipes] = itsWide;
                pipes++;
            }
        }

        void addTurn(int pipe, int from, int minutes) {
            for (int minute = from; minute < from + minutes && minute < TURN_MINUTES; minute++) {
                turned[minute] |= 1 << pipe;
            }
            turns++;
        }

        int pondNamed(int letters) {
            for (int pond = 0; pond < ponds; pond++) {
                if (name[pond] == letters) {
                    return pond;
                }
            }
            return NONE;
        }

        boolean hasPipe(int from, int to) {
            for (int pipe = 0; pipe < pipes; pipe++) {
                if ((one[pipe] == from && other[pipe] == to) || (one[pipe] == to && other[pipe] == from)) {
                    return true;
                }
            }
            return false;
        }

        int turnedIn(int minute) {
            return minute >= 0 && minute < TURN_MINUTES ? turned[minute] : 0;
        }

        int allPonds() {
            return (1 << ponds) - 1;
        }

        int allPipes() {
            return (1 << pipes) - 1;
        }

        /** The least WATER by which a POND's LEVEL is as high. */
        int waterFor(int pond, int height) {
            return Math.max(0, (height - floor[pond]) * area[pond]);
        }

        int liftOf(int lock) {
            return area[locks.pond[lock]] * Math.max(0, locks.high[lock] - locks.low[lock]);
        }

        /** AREA of those of some PONDS (bits) whose FLOOR is so high at most. */
        long areaUpTo(int some, int height) {
            long sum = 0;
            for (int pond = 0; pond < ponds; pond++) {
                if ((some >> pond & 1) == 1 && floor[pond] <= height) {
                    sum += area[pond];
                }
            }
            return sum;
        }

        /** AREA times FLOOR of the same ones. */
        long bedUpTo(int some, int height) {
            long sum = 0;
            for (int pond = 0; pond < ponds; pond++) {
                if ((some >> pond & 1) == 1 && floor[pond] <= height) {
                    sum += area[pond] * floor[pond];
                }
            }
            return sum;
        }

        /** The PONDS (bits) at the ends of PIPES that aren't shut and have an end at some PONDS (bits). */
        int nextTo(int some, int shut) {
            int found = 0;
            for (int pipe = 0; pipe < pipes; pipe++) {
                int ends = 1 << one[pipe] | 1 << other[pipe];
                if ((shut >> pipe & 1) == 0 && (ends & some) != 0) {
                    found |= ends;
                }
            }
            return found;
        }

        /** WIDE of all PIPES that aren't shut and have just one end on a side (bits of PONDS). */
        int wideAcross(int side, int shut) {
            int sum = 0;
            for (int pipe = 0; pipe < pipes; pipe++) {
                if ((shut >> pipe & 1) == 0 && (side >> one[pipe] & 1) != (side >> other[pipe] & 1)) {
                    sum += wide[pipe];
                }
            }
            return sum;
        }
    }

    /** LOCKS and BOATS as the TEXT tells them. */
    private static final class Locks {
        int told;
        final int[] pond = new int[MOST_LOCKS];
        final int[] low = new int[MOST_LOCKS];
        final int[] high = new int[MOST_LOCKS];
        int boats;
        final int[] boatLock = new int[MOST_BOATS];
        final int[] boatFrom = new int[MOST_BOATS];

        void clear() {
            told = 0;
            boats = 0;
        }

        void add(int itsPond, int itsLow, int itsHigh) {
            if (told < MOST_LOCKS) {
                pond[told] = itsPond;
                low[told] = itsLow;
                high[told] = itsHigh;
                told++;
            }
        }

        void addBoat(int itsLock, int from) {
            if (boats < MOST_BOATS) {
                boatLock[boats] = itsLock;
                boatFrom[boats] = from;
                boats++;
            }
        }

        int ofPond(int itsPond) {
            for (int lock = 0; lock < told; lock++) {
                if (pond[lock] == itsPond) {
                    return lock;
                }
            }
            return NONE;
        }

        int pondOfBoat(int boat) {
            return pond[boatLock[boat]];
        }
    }

    /** The E of the laws, each as a row of KNOTS with the sign behind its sides. */
    private static final class Laws {
        private static final long MOST_VALUE = 1000000000000L;

        int length;
        private final int[] kind = new int[MOST_KNOTS];
        private final int[] value = new int[MOST_KNOTS];
        private final int[] from = new int[RULES];
        private final int[] to = new int[RULES];
        private final long[] stack = new long[MOST_KNOTS];

        void clear() {
            length = 0;
            for (int rule = 0; rule < RULES; rule++) {
                from[rule] = 0;
                to[rule] = 0;
            }
        }

        void begin(int rule) {
            from[rule] = length;
        }

        void end(int rule) {
            to[rule] = length;
        }

        void add(int itsKind, int itsValue) {
            if (length < MOST_KNOTS) {
                kind[length] = itsKind;
                value[length] = itsValue;
                length++;
            }
        }

        boolean isTold(int rule) {
            return to[rule] > from[rule];
        }

        /** E of a law that is told, by the values of the NAMES. */
        long worth(int rule, long[] names) {
            int top = 0;
            for (int i = from[rule]; i < to[rule]; i++) {
                int its = kind[i];
                if (its == NUMBER && top < MOST_KNOTS) {
                    stack[top] = value[i];
                    top++;
                } else if (its >= AREA && its <= MINUTE && top < MOST_KNOTS) {
                    stack[top] = names[its - AREA];
                    top++;
                } else if (its == NOT && top >= 1) {
                    stack[top - 1] = truth(stack[top - 1] == 0);
                } else if (top >= 2) {
                    top--;
                    stack[top - 1] = valueOf(its, stack[top - 1], stack[top]);
                    if (stack[top - 1] == ERROR) {
                        return ERROR;
                    }
                }
            }
            return top == 1 ? stack[0] : ERROR;
        }

        private static long valueOf(int sign, long a, long b) {
            switch (sign) {
                case OR: return truth(a != 0 || b != 0);
                case AND: return truth(a != 0 && b != 0);
                case EQUAL: return truth(a == b);
                case UNLIKE: return truth(a != b);
                case LESS: return truth(a < b);
                case AT_MOST: return truth(a <= b);
                case MORE: return truth(a > b);
                case AT_LEAST: return truth(a >= b);
                case PLUS: return inBounds(a + b);
                case MINUS: return inBounds(a - b);
                case TIMES: return product(a, b);
                case OVER: return b == 0 ? ERROR : a / b;
                default: return ERROR;
            }
        }

        private static long truth(boolean so) {
            return so ? 1 : 0;
        }

        private static long inBounds(long v) {
            return v > MOST_VALUE || v < -MOST_VALUE ? ERROR : v;
        }

        /** Looks ahead by a division, as the product itself may be beyond a long. */
        private static long product(long a, long b) {
            if (a == 0) {
                return 0;
            }
            long most = MOST_VALUE / (a < 0 ? -a : a);
            return b > most || b < -most ? ERROR : a * b;
        }
    }

    /** All that changes as MINUTES go by and by calls. */
    private static final class Scene {
        Canal canal;
        final int[] water = new int[MOST_PONDS];
        /** Which PIPES are JAMMED (bits). */
        int jammed;
        /** BOATS: WAITS, IN, UP. */
        final int[] stage = new int[MOST_BOATS];
        final int[] waited = new int[MOST_BOATS];
        int toll;
        int minute;
        /** The last number, whole. */
        int number;

        Scene(Canal told) {
            canal = told;
        }

        /** As it is by the TEXT. */
        void begin(Canal told) {
            canal = told;
            for (int pond = 0; pond < MOST_PONDS; pond++) {
                water[pond] = told.water[pond];
            }
            for (int boat = 0; boat < MOST_BOATS; boat++) {
                stage[boat] = WAITS;
                waited[boat] = 0;
            }
            jammed = 0;
            toll = 0;
            minute = 0;
            number = told.seed;
        }

        void become(Scene like) {
            canal = like.canal;
            for (int pond = 0; pond < MOST_PONDS; pond++) {
                water[pond] = like.water[pond];
            }
            for (int boat = 0; boat < MOST_BOATS; boat++) {
                stage[boat] = like.stage[boat];
                waited[boat] = like.waited[boat];
            }
            jammed = like.jammed;
            toll = like.toll;
            minute = like.minute;
            number = like.number;
        }

        /** LEVEL times AREA, so that it is whole. */
        int raised(int pond) {
            return canal.floor[pond] * canal.area[pond] + water[pond];
        }

        /** By how much one LEVEL is more than another one, times both AREAS. */
        int higherBy(int one, int other) {
            int oneArea = canal.area[one];
            int otherArea = canal.area[other];
            return (canal.floor[one] - canal.floor[other]) * oneArea * otherArea
                    + water[one] * otherArea - water[other] * oneArea;
        }

        boolean isAtLeast(int pond, int height) {
            return raised(pond) >= height * canal.area[pond];
        }

        boolean isAtMost(int pond, int height) {
            return raised(pond) <= height * canal.area[pond];
        }

        boolean isJammed(int pipe) {
            return (jammed >> pipe & 1) == 1;
        }

        int giver(int pipe) {
            int one = canal.one[pipe];
            int other = canal.other[pipe];
            return higherBy(one, other) >= 0 ? one : other;
        }

        int movable(int pipe) {
            int from = giver(pipe);
            int to = canal.one[pipe] + canal.other[pipe] - from;
            int areas = canal.area[from] + canal.area[to];
            return areas > 0 ? Math.min(water[from], higherBy(from, to) / areas) : 0;
        }

        /** A PIPE RUNS, so many measures at most: how many. */
        int run(int pipe, int most) {
            int from = giver(pipe);
            int moved = Math.min(most, movable(pipe));
            move(from, canal.one[pipe] + canal.other[pipe] - from, moved);
            return moved;
        }

        void move(int from, int to, int measures) {
            water[from] -= measures;
            water[to] += measures;
        }

        /** All PIPES that aren't JAMMED RUN by numbers: how much ran in all. */
        int runAll() {
            int moved = 0;
            for (int pipe = 0; pipe < canal.pipes; pipe++) {
                if (!isJammed(pipe)) {
                    moved += run(pipe, Integer.MAX_VALUE);
                }
            }
            return moved;
        }

        void pour(int pond, int measures) {
            if (water[pond] < FULL) {
                water[pond] = Math.min(FULL, water[pond] + measures);
            }
        }

        void lose(int pond, int measures) {
            water[pond] = Math.max(0, water[pond] - measures);
        }

        int waterOf(int some) {
            int sum = 0;
            for (int pond = 0; pond < canal.ponds; pond++) {
                if ((some >> pond & 1) == 1) {
                    sum += water[pond];
                }
            }
            return sum;
        }

        int boatIn(int lock) {
            for (int boat = 0; boat < canal.locks.boats; boat++) {
                if (stage[boat] == IN && canal.locks.boatLock[boat] == lock) {
                    return boat;
                }
            }
            return NONE;
        }

        void letIn(int boat, int lock) {
            if (stage[boat] == WAITS && boatIn(lock) == NONE
                    && isAtMost(canal.locks.pond[lock], canal.locks.low[lock])) {
                stage[boat] = IN;
            }
        }

        boolean canGoUp(int boat, int lock) {
            return stage[boat] == IN && isAtLeast(canal.locks.pond[lock], canal.locks.high[lock]);
        }

        int boatsThatAre(int asked) {
            int sum = 0;
            for (int boat = 0; boat < canal.locks.boats; boat++) {
                if (stage[boat] == asked) {
                    sum++;
                }
            }
            return sum;
        }

        int waitedByAll() {
            int sum = 0;
            for (int boat = 0; boat < canal.locks.boats; boat++) {
                sum += waited[boat];
            }
            return sum;
        }

        /** The next number, as it is told. */
        int nextNumber() {
            number = (int) (number * 1103515245L + 12345L & Integer.MAX_VALUE);
            return number >> 16;
        }
    }

    /** How MINUTES go by: with numbers or as it goes, and what is otherwise than told. */
    private static final class Minutes {
        boolean drawn;
        boolean jamming;
        boolean leaking;
        boolean springing;
        boolean allOpen;
        /** The PIPE that is never OPEN. */
        int shut;
        /** The POND that leaks by leakBy in place of E. */
        int leakPond;
        int leakBy;
        private final long[] names = new long[MINUTE - AREA + 1];

        void asItGoes() {
            drawn = false;
            jamming = true;
            leaking = true;
            springing = true;
            allOpen = false;
            shut = NONE;
            leakPond = NONE;
            leakBy = 0;
        }

        void advance(Scene scene, int n) {
            for (int i = 0; i < n; i++) {
                oneMinute(scene);
            }
        }

        void oneMinute(Scene scene) {
            if (springing) {
                letSprings(scene);
            }
            letPipes(scene);
            if (leaking) {
                letLeaks(scene);
            }
            letBoats(scene);
            scene.minute++;
        }

        private void letSprings(Scene scene) {
            for (int pond = 0; pond < scene.canal.ponds; pond++) {
                scene.pour(pond, scene.canal.spring[pond]);
            }
        }

        private void letPipes(Scene scene) {
            for (int pipe = 0; pipe < scene.canal.pipes; pipe++) {
                if ((openNow(scene) >> pipe & 1) == 1) {
                    int wide = scene.canal.wide[pipe];
                    scene.run(pipe, put(worth(scene, FLOW_RULE, scene.giver(pipe), wide), 99, wide));
                    if (jamsNow(scene)) {
                        scene.jammed |= 1 << pipe;
                    }
                }
            }
        }

        private boolean jamsNow(Scene scene) {
            int odds = scene.canal.jam;
            if (!jamming) {
                return false;
            }
            if (!drawn) {
                return odds >= 50;
            }
            // the two sure cases take no number
            if (odds == 0 || odds == 100) {
                return odds == 100;
            }
            return scene.nextNumber() % 100 < odds;
        }

        private void letLeaks(Scene scene) {
            for (int pond = 0; pond < scene.canal.ponds; pond++) {
                int leak = pond == leakPond ? leakBy : put(worth(scene, LEAK_RULE, pond, 0), 99, 0);
                scene.lose(pond, leak);
            }
        }

        private void letBoats(Scene scene) {
            Locks locks = scene.canal.locks;
            for (int boat = 0; boat < locks.boats; boat++) {
                if (scene.stage[boat] != UP && scene.minute >= locks.boatFrom[boat]) {
                    int lock = locks.boatLock[boat];
                    scene.letIn(boat, lock);
                    if (scene.canGoUp(boat, lock)) {
                        // the toll goes first, as by its E the boat is IN yet
                        scene.toll += put(worth(scene, TOLL_RULE, locks.pond[lock], 0), 999, 1);
                        scene.stage[boat] = UP;
                    } else {
                        scene.waited[boat]++;
                    }
                }
            }
        }

        /** The PIPES (bits) that are OPEN in this MINUTE. */
        int openNow(Scene scene) {
            if (allOpen) {
                return scene.canal.allPipes();
            }
            int open = scene.canal.turnedIn(scene.minute) & ~scene.jammed;
            return shut == NONE ? open : open & ~(1 << shut);
        }

        private static int put(long worth, int most, int otherwise) {
            if (worth == ERROR) {
                return otherwise;
            }
            return (int) Math.max(0, Math.min(most, worth));
        }

        /** E of a law for a POND, ERROR without the law, too. */
        long worth(Scene scene, int rule, int pond, int wide) {
            if (!scene.canal.laws.isTold(rule)) {
                return ERROR;
            }
            names[0] = scene.canal.area[pond];
            names[1] = scene.canal.floor[pond];
            names[2] = scene.water[pond];
            names[3] = wide;
            names[4] = Integer.bitCount(openNow(scene));
            names[5] = scene.boatsThatAre(IN);
            names[6] = scene.minute;
            return scene.canal.laws.worth(rule, names);
        }
    }

    /** All rows of a few OPENINGS by which a POND's LEVEL is as high as asked. */
    private static final class Openings {
        int fewestOpened;
        int firstOpened;
        int leastDrawn;
        private int pond;
        private int height;
        private int from;
        private int had;

        /** The scene's WATER is moved to and fro, and is as before when it is done. */
        void seek(Scene scene, int asked, int itsHeight, int drawnFrom) {
            pond = asked;
            height = itsHeight;
            from = drawnFrom;
            had = scene.water[drawnFrom];
            fewestOpened = WITHOUT;
            firstOpened = WITHOUT;
            leastDrawn = WITHOUT;
            open(scene, 0, WITHOUT);
        }

        /** Goes on behind so many OPENINGS; one by which nothing runs is left out, as the row without it is shorter. */
        private void open(Scene scene, int opened, int first) {
            if (scene.isAtLeast(pond, height)) {
                note(scene.water[from], opened, first);
            }
            if (opened >= MOST_OPENINGS) {
                return;
            }
            for (int pipe = 0; pipe < scene.canal.pipes; pipe++) {
                int giver = scene.giver(pipe);
                int taker = scene.canal.one[pipe] + scene.canal.other[pipe] - giver;
                int moved = scene.isJammed(pipe) ? 0 : scene.movable(pipe);
                if (moved > 0) {
                    scene.move(giver, taker, moved);
                    open(scene, opened + 1, opened == 0 ? pipe : first);
                    scene.move(taker, giver, moved);
                }
            }
        }

        /** Rows of the same length come by numbers, so the first one noted stays. */
        private void note(int left, int opened, int first) {
            if (fewestOpened == WITHOUT || opened < fewestOpened) {
                fewestOpened = opened;
                firstOpened = first;
            }
            int drawn = Math.max(0, had - left);
            if (leastDrawn == WITHOUT || drawn < leastDrawn) {
                leastDrawn = drawn;
            }
        }
    }

    /** What was seen, and what strikes it. */
    private static final class Facts {
        static final int LESS = 0;
        static final int AT_LEAST_SO_MUCH = 1;
        static final int STRIKES = 2;
        static final int ALL = -1;

        int told;
        int knownBy = ALL;
        private final int[] kind = new int[MOST_FACTS];
        private final int[] minutes = new int[MOST_FACTS];
        /** The POND, or the FACT that is STRUCK. */
        private final int[] about = new int[MOST_FACTS];
        private final int[] water = new int[MOST_FACTS];
        private final boolean[] struck = new boolean[MOST_FACTS];

        void clear() {
            told = 0;
            knownBy = ALL;
        }

        boolean isFull() {
            return told >= MOST_FACTS;
        }

        int add(int itsKind, int itsMinutes, int itsAbout, int itsWater) {
            if (isFull()) {
                return NONE;
            }
            kind[told] = itsKind;
            minutes[told] = itsMinutes;
            about[told] = itsAbout;
            water[told] = itsWater;
            told++;
            return told - 1;
        }

        int knownCount() {
            return knownBy == ALL ? told : knownBy;
        }

        /** Finds which are STRUCK, from the last one on, as one that is STRUCK strikes nothing. */
        void settle() {
            for (int fact = 0; fact < MOST_FACTS; fact++) {
                struck[fact] = false;
            }
            for (int fact = knownCount() - 1; fact >= 0; fact--) {
                if (kind[fact] == STRIKES && !struck[fact]) {
                    struck[about[fact]] = true;
                }
            }
        }

        /** Whether it is KNOWN as settled. */
        private boolean counts(int fact) {
            return kind[fact] != STRIKES && !struck[fact];
        }

        int lastKnownMinute() {
            int last = 0;
            for (int fact = 0; fact < knownCount(); fact++) {
                if (counts(fact)) {
                    last = Math.max(last, minutes[fact]);
                }
            }
            return last;
        }

        /** Whether the KNOWN ones of a MINUTE are so by what the PONDS have then. */
        boolean hold(int minute, int[] had) {
            for (int fact = 0; fact < knownCount(); fact++) {
                if (counts(fact) && minutes[fact] == minute
                        && had[about[fact]] >= water[fact] != (kind[fact] == AT_LEAST_SO_MUCH)) {
                    return false;
                }
            }
            return true;
        }
    }

    /** What can be undone: rows of WATER and of what is JAMMED as they were, the oldest given up for a new one. */
    private static final class History {
        private static final int ROW = MOST_PONDS + 1;

        int held;
        private int next;
        private final int[] rows = new int[MOST_UNDONE * ROW];

        void clear() {
            held = 0;
        }

        void note(Scene scene) {
            for (int pond = 0; pond < MOST_PONDS; pond++) {
                rows[next * ROW + pond] = scene.water[pond];
            }
            rows[next * ROW + MOST_PONDS] = scene.jammed;
            next = (next + 1) % MOST_UNDONE;
            held = Math.min(MOST_UNDONE, held + 1);
        }

        boolean takeBack(Scene scene) {
            if (held == 0) {
                return false;
            }
            held--;
            next = (next + MOST_UNDONE - 1) % MOST_UNDONE;
            for (int pond = 0; pond < MOST_PONDS; pond++) {
                scene.water[pond] = rows[next * ROW + pond];
            }
            scene.jammed = rows[next * ROW + MOST_PONDS];
            return true;
        }
    }
}
