import java.util.Arrays;
import java.util.List;

/**
 * The boundaries that part 1 of the Terms and promises 1 to 5 name, a test for each sentence: at the boundary, one
 * before it, one behind it. FaultsTest tells the same language by examples.
 */
public final class TextEdgesTest {
    private static final Due due = new Due();
    private static final int NONE = SidePonds.NONE;
    private static final int MAX = Integer.MAX_VALUE;
    private static final int MIN = Integer.MIN_VALUE;
    private static final List<String> WORDS = Arrays.asList("pond", "lock", "pipe", "turn", "boat", "spring", "jam",
        "seed", "law", "flow", "leak", "toll", "or", "and", "not", "area", "floor", "water", "wide", "open", "boats",
        "minute");
    private static final String ONE = "pond p 1 0 0;";
    private static final String TWO = ONE + "pond q 1 0 0;";
    private static final String PIPED = TWO + "pipe p q 1;";

    // ---- tokens

    /** Blanks 10, 32. */
    private static void blanks() {
        due.in("blanks");
        for (int sign = 0; sign < 256; sign++) {
            String text = "jam" + (char) sign + "5;";
            if (sign == 10 || sign == 32 || isDigit(sign)) {
                due.fine(1, text);
            } else if (isLetter(sign)) {
                due.fault(1, "|" + text);
            } else {
                due.fault(1, "jam|" + (char) sign + "5;");
            }
        }
        due.fine(1, " \n jam\n\n5 \n;\n ");
        due.fine(0, "\n");
        due.fine(0, " ");
        due.fine(0, "");
        due.fine(2, "jam5;seed5;");
    }

    /** A TOKEN that is none, or can't stand there: each sign behind a number of E. */
    private static void signsBehindNumber() {
        due.in("signs behind a number");
        for (int sign = 0; sign < 256; sign++) {
            String head = "law flow 1";
            char c = (char) sign;
            if (sign == 10 || sign == 32 || c == ';') {
                due.fault(1, head + c + "|2;");
            } else if (isDigit(sign) || "+-*/<>=".indexOf(c) >= 0) {
                due.fine(1, head + c + "2;");
            } else {
                due.fault(1, head + "|" + c + "2;");
            }
        }
    }

    /** A TOKEN that is none, or can't stand there: each sign where a part of E must stand. */
    private static void signsForNumber() {
        due.in("signs for a number");
        for (int sign = 0; sign < 256; sign++) {
            char c = (char) sign;
            if (sign == 10 || sign == 32) {
                due.fault(1, "law flow " + c + "|;");
            } else if (isDigit(sign)) {
                due.fine(1, "law flow " + c + ";");
            } else if (c == '(') {
                due.fault(1, "law flow (|;");
            } else {
                due.fault(1, "law flow |" + c + ";");
            }
        }
    }

    /** = (or > behind <) right behind < or > belongs to it. */
    private static void doubleSigns() {
        due.in("signs of two");
        String signs = "<>=+-*/();";
        for (char first : signs.toCharArray()) {
            for (char second : signs.toCharArray()) {
                String both = "" + first + second;
                String text = "law flow 1" + both + "2;";
                if (both.equals("<=") || both.equals(">=") || both.equals("<>")) {
                    due.is(both, due.fine(1, text).count(5), 3);
                    due.fault(1, "law flow 1" + first + " |" + second + "2;");
                } else if (first == ';') {
                    due.fault(1, "law flow 1;|" + second + "2;");
                } else if (first == '(' || first == ')') {
                    due.fault(1, "law flow 1|" + both + "2;");
                } else if (second == '(') {
                    due.fault(1, "law flow 1" + both + "2|;");
                } else {
                    due.fault(1, "law flow 1" + first + "|" + second + "2;");
                }
            }
        }
        due.fault(1, "law flow 1<=|=2;");
        due.fault(1, "law flow 1<>|=2;");
        due.fault(1, "law flow 1<>|>2;");
        due.fault(1, "law flow 1>=|=2;");
        due.fault(1, "law flow 1<|");
        due.fault(1, "law flow 1<=|");
        // cut off behind its first sign
        SidePonds x = new SidePonds();
        Due.feed(x, "law flow 1<=2;");
        due.is("text", x.text(11), NONE);
        due.is("more must come", x.fault(0) * 100 + x.fault(1), 111);
    }

    /** W: one of 1 .. 6 letters; a word of more than 6 letters is none. */
    private static void lettersOfNames() {
        due.in("letters of W");
        for (String name : new String[] {"a", "z", "ab", "abcdef", "zzzzzz", "azazaz"}) {
            due.is(name, due.fine(1, "pond " + name + " 1 0 0;").named(Due.letters(name)), 0);
        }
        due.fault(1, "pond |abcdefg 1 0 0;");
        due.fault(1, "pond |" + "a".repeat(100) + " 1 0 0;");
        due.fault(1, "pond |1 0 0;");
        // the first six letters of a longer word are no name
        due.fault(1, "pond abcdef 1 0 0;lock |abcdefg 1 1;");
        due.fault(1, "|springs");
        due.fault(1, "law |flowers 1;");
        due.fault(1, "law flow |minutes;");
        due.fault(1, "law flow 1 |andmore 1;");
        // nor is a name one with a letter more or less, or in another order
        due.fault(4, "pond abcdef 1 0 0;lock |abcde 1 1;");
        due.fault(4, "pond abcde 1 0 0;lock |abcdef 1 1;");
        due.fault(4, "pond ab 1 0 0;lock |ba 1 1;");
        due.fine(4, "pond ab 1 0 0;pond ba 1 0 0;pond aba 1 0 0;pond abab 1 0 0;");
        for (char c : "`{AZ@[".toCharArray()) {
            due.fault(1, "pond |" + c + " 1 0 0;");
            due.fault(1, "pond a|" + c + " 1 0 0;");
        }
    }

    /** W: none of the words of the language. */
    private static void wordsOfTheLanguage() {
        due.in("words of the language");
        for (String word : WORDS) {
            due.fault(1, "pond |" + word + " 1 0 0;");
            due.fault(1, ONE + "lock |" + word + " 1 0;");
            due.fault(1, TWO + "pipe p |" + word + " 1;");
            String less = word.substring(0, word.length() - 1);
            if (!WORDS.contains(less)) {
                due.fine(1, "pond " + less + " 1 0 0;");
            }
            if (word.length() < 6 && !WORDS.contains(word + "s")) {
                due.fine(1, "pond " + word + "s 1 0 0;");
            } else if (word.length() == 6) {
                due.fault(1, "pond |" + word + "s 1 0 0;");
            }
        }
    }

    /** Each word of the language but where it belongs. */
    private static void wordsElsewhere() {
        due.in("words elsewhere");
        for (String word : WORDS) {
            int kind = WORDS.indexOf(word);
            if (kind > 8) {
                due.fault(1, "|" + word + " 1;");
            }
            if (kind < 9 || kind > 11) {
                due.fault(1, "law |" + word + " 1;");
            }
            if (kind >= 15) {
                due.is(word, due.fine(1, "law flow " + word + ";").count(5), 1);
            } else if (word.equals("not")) {
                due.fault(1, "law flow not |;");
            } else {
                due.fault(1, "law flow |" + word + ";");
            }
            if (word.equals("and") || word.equals("or")) {
                due.fault(1, "law flow 1 " + word + "|;");
            } else {
                due.fault(1, "law flow 1 |" + word + ";");
            }
        }
    }

    /** The length, if more must come. */
    private static void more() {
        due.in("more must come");
        for (String line : new String[] {"pond r 1 0 0", "lock p 1 1", "pipe p q 1", "turn 0 0 1", "spring p 1", "jam 1",
            "seed 1", "law flow not ( 1 + area ) <> 2"}) {
            String text = (line.startsWith("turn") ? PIPED : TWO) + line;
            int from = text.length() - line.length();
            for (int to = from; to <= text.length(); to++) {
                if (to == from) {
                    due.fine(text.startsWith(PIPED) ? 3 : 2, text.substring(0, to));
                } else if (to == text.length() || text.charAt(to) == ' ') {
                    due.fault(1, text.substring(0, to) + "|");
                    due.fault(1, text.substring(0, to) + " \n |");
                }
            }
            due.fine(text.startsWith(PIPED) ? 4 : 3, text + ";");
            due.fine(text.startsWith(PIPED) ? 4 : 3, text + " ; ");
        }
    }

    // ---- numbers and how many

    /** Too much: a number beyond what is said, however many digits it has; a bar stands for the number. */
    private static void number(String marked, int least, int most) {
        String head = marked.substring(0, marked.indexOf('|'));
        String tail = marked.substring(marked.indexOf('|') + 1);
        int lines = marked.replaceAll("[^;]", "").length();
        due.fine(lines, head + least + tail);
        due.fine(lines, head + (least + 1) + tail);
        due.fine(lines, head + (most - 1) + tail);
        due.fine(lines, head + most + tail);
        due.fine(lines, head + "0".repeat(30) + most + tail);
        if (least > 0) {
            due.fault(2, head + "|" + (least - 1) + tail);
        }
        due.fault(2, head + "|" + (most + 1) + tail);
        due.fault(2, head + "|" + (most * 10L) + tail);
        // what would wrap around to a fine one
        due.fault(2, head + "|" + ((1L << 31) + least) + tail);
        due.fault(2, head + "|" + ((1L << 32) + least) + tail);
        due.fault(2, head + "|" + "18446744073709551616".substring(0, 19) + (6 + least) + tail);
        due.fault(2, head + "|" + "9".repeat(40) + tail);
        due.fault(1, head + "|-" + least + tail);
    }

    /** AREA 1 .. 20, FLOOR 0 .. 99, WATER 0 .. 999. */
    private static void numbersOfPonds() {
        due.in("numbers of ponds");
        number("pond p | 0 0;", 1, 20);
        number("pond p 1 | 0;", 0, 99);
        number("pond p 1 0 |;", 0, 999);
        SidePonds x = Due.told("pond p 20 99 999;pond q 1 0 0;pond r 00007 00008 00009;");
        due.is("p", x.pond(0, 0) * 1000000 + x.pond(0, 1) * 1000 + x.pond(0, 2), 20099999);
        due.is("q", x.pond(1, 0) * 1000000 + x.pond(1, 1) * 1000 + x.pond(1, 2), 1000000);
        due.is("r", x.pond(2, 0) * 1000000 + x.pond(2, 1) * 1000 + x.pond(2, 2), 7008009);
    }

    /** LOW, HIGH 0 .. 199; PIPES WIDE 1 .. 99; spring: 0 .. 9. */
    private static void numbersOfLocksPipesSprings() {
        due.in("numbers of locks, pipes, springs");
        number(ONE + "lock p | 0;", 0, 199);
        number(ONE + "lock p 0 |;", 0, 199);
        number(TWO + "pipe p q |;", 1, 99);
        number(ONE + "spring p |;", 0, 9);
        SidePonds x = Due.told(TWO + "lock q 199 198;pipe q p 99;spring q 9;spring p 0;");
        due.is("low", x.lock(0, 1), 199);
        due.is("high", x.lock(0, 2), 198);
        due.is("wide", x.pipe(0, 2), 99);
        due.is("springs", x.pond(1, 3) * 10 + x.pond(0, 3), 90);
    }

    /** TURNS from a MINUTE 0 .. 99 on, for MINUTES 1 .. 20; BOATS from a MINUTE 0 .. 99 on. */
    private static void numbersOfTurnsAndBoats() {
        due.in("numbers of turns, boats");
        number(PIPED + "turn 0 | 1;", 0, 99);
        number(PIPED + "turn 0 0 |;", 1, 20);
        number(ONE + "lock p 0 0;boat p |;", 0, 99);
        due.is("from", Due.told(ONE + "lock p 0 0;boat p 99;").boat(0, 1), 99);
    }

    /** jam: of a hundred 0 .. 100 (0); seed: 0 .. 99999 (0); N of E 0 .. 9999. */
    private static void numbersOfTheRest() {
        due.in("numbers of jam, seed, E");
        number("jam |;", 0, 100);
        number("seed |;", 0, 99999);
        number("law toll |;", 0, 9999);
        number("law toll 1 + 2 * |;", 0, 9999);
        due.is("no jam", Due.told("").holds(1, 0) * 10 + Due.told("").holds(1, 1), 11);
        due.is("jam 99", Due.told("jam 99;").holds(1, 0) * 1000 + Due.told("jam 99;").holds(1, 1), 1100);
        due.is("E", Due.told(ONE + "law leak 9999;").law(1, 0), 9999);
        due.is("E", Due.told(ONE + "law leak 0;").law(1, 0), 0);
    }

    /** Too much: a PIPE above 9; not told: a PIPE that isn't told ahead; of one place the least FAULT. */
    private static void pipesOfTurns() {
        due.in("pipes of turns");
        String ponds = ponds(5);
        for (int pipes = 0; pipes <= 10; pipes++) {
            String told = ponds + pipes(pipes);
            for (int pipe = 0; pipe <= 12; pipe++) {
                if (pipe < pipes) {
                    due.is("turns", due.fine(6 + pipes, told + "turn " + pipe + " 0 1;").pipe(pipe, 3), 1);
                } else {
                    due.fault(pipe > 9 ? 2 : 4, told + "turn |" + pipe + " 0 1;");
                }
            }
        }
        due.fault(4, TWO + "turn |0 0 1;pipe p q 1;");
        due.fault(2, "turn |10 0 1;");
        due.fault(4, "turn |9 100 0;");
        due.fault(2, "turn |4294967296 0 1;");
    }

    /** At most so many LINES of a word; one more is too much, at its word. */
    private static void most(String told, int toldLines, String[] lines, int most) {
        StringBuilder b = new StringBuilder(told);
        for (int n = 0; n < most; n++) {
            b.append(lines[n % lines.length]);
            if (n >= most - 2) {
                due.fine(toldLines + n + 1, b.toString());
            }
        }
        String word = lines[0].substring(0, lines[0].indexOf(' '));
        due.fault(2, b + "|" + lines[most % lines.length]);
        due.fault(2, b + " \n|" + word);
        due.fault(2, b + "|" + word + ";");
        due.fault(2, b + "|" + word + " pond 1000;");
    }

    /** PONDS at most 7, LOCKS 3, PIPES 10, TURNS 12, BOATS 8: an eighth pond and so on (at the word of the LINE). */
    private static void mostLines() {
        due.in("most lines");
        most("", 0, ponds(8).split("(?<=;)"), 7);
        String[] locks = {"lock a 1 1;", "lock b 1 1;", "lock c 1 1;", "lock d 1 1;"};
        most(ponds(4), 4, locks, 3);
        most(ponds(6), 6, (pipes(10) + "pipe a f 1;").split("(?<=;)"), 10);
        most(PIPED, 3, new String[] {"turn 0 9 1;"}, 12);
        most(ponds(1) + "lock a 1 1;", 2, new String[] {"boat a 5;"}, 8);
        StringBuilder springs = new StringBuilder(ponds(7));
        for (int i = 0; i < 7; i++) {
            springs.append("spring ").append((char) ('a' + i)).append(' ').append(i + 1).append(';');
            SidePonds x = due.fine(8 + i, springs.toString());
            due.is("spring", x.pond(i, 3), i + 1);
            due.is("spring of the first", x.pond(0, 3), 1);
        }
    }

    /** All numbered as they come. */
    private static void numberedAsTheyCome() {
        due.in("numbered as they come");
        SidePonds x = Due.told(ponds(7) + pipes(10) + "lock g 1 2;lock a 3 4;lock d 5 6;boat d 7;boat g 8;boat a 9;");
        for (int i = 0; i < 7; i++) {
            due.is("pond", x.named(1 + i << 25), i);
        }
        due.is("locks", x.lock(0, 0) * 100 + x.lock(1, 0) * 10 + x.lock(2, 0), 603);
        due.is("of ponds", x.pond(6, 4) * 100 + x.pond(0, 4) * 10 + x.pond(3, 4), 12);
        due.is("of none", x.pond(1, 4), -2);
        due.is("boats", x.boat(0, 0) * 100 + x.boat(1, 0) * 10 + x.boat(2, 0), 201);
        int pipe = 0;
        for (int i = 0; i < 5; i++) {
            for (int k = i + 1; k < 5; k++) {
                due.is("pipe", x.pipe(pipe, 0) * 10 + x.pipe(pipe, 1), i * 10 + k);
                pipe++;
            }
        }
    }

    // ---- E

    /** A ninth '(' open is too much, at it. */
    private static void brackets() {
        due.in("brackets");
        for (int n = 0; n <= 8; n++) {
            String e = "(".repeat(n) + "1" + ")".repeat(n);
            due.is("knots", due.fine(1, "law flow " + e + ";").count(5), 1);
            due.is("knots", due.fine(1, "law flow " + e + "+" + e + "*" + e + ";").count(5), 5);
            due.fault(1, "law flow " + e + "|);");
            if (n > 0) {
                due.fault(1, "law flow " + "(".repeat(n) + "1" + ")".repeat(n - 1) + "|;");
            }
        }
        due.fault(2, "law flow ((((((((|(1)))))))));");
        due.fault(2, "law flow ((((((((|(");
        due.fault(2, "law flow ((((((1+((1)*(|(1))))))))));");
        due.fine(1, "law flow (((((((1+(1)*(1))))))));");
        due.fault(2, "law flow 1;law leak ((((((((|(1)))))))));");
        due.fine(3, "law flow ((((((((1))))))));law leak ((((((((1))))))));law toll ((((((((1))))))));");
    }

    /** A 65th KNOT of all E is too much, at it: N, NAMES, signs, not, and, or count one each. */
    private static void knots() {
        due.in("knots");
        String of61 = "1" + "+1".repeat(30);
        due.is("63", due.fine(1, "law flow " + of61 + "+1;").count(5), 63);
        due.is("64", due.fine(1, "law flow not " + of61 + "+1;").count(5), 64);
        for (String sign : new String[] {"+", "-", "*", "/", "<", "<=", "=", "<>", ">=", ">", " and ", " or "}) {
            String lead = sign.startsWith(" ") ? " |" + sign.substring(1) : "|" + sign;
            due.is(sign, due.fine(1, "law flow not (" + of61 + sign + "1);").count(5), 64);
            due.fault(2, "law flow not (" + of61 + sign + "1)" + lead + "1;");
            due.fault(2, "law flow " + of61 + "+1" + sign + "|1;");
        }
        for (String name : WORDS.subList(15, 22)) {
            due.is(name, due.fine(1, "law flow not " + of61 + "+" + name + ";").count(5), 64);
            due.fault(2, "law flow " + of61 + "+1+|" + name + ";");
        }
        due.fault(2, "law flow " + of61 + "+1 and |not 1;");
        due.fault(2, "law flow " + of61 + "+1+(|1);");
        due.fault(2, "law flow " + of61 + "+1+|1");
        due.is("of all E", due.fine(3, "law flow " + of61 + ";law leak 1;law toll not 1;").count(5), 64);
        due.fault(2, "law flow " + of61 + ";law leak 1;law toll not not |1;");
        due.fault(2, "law flow " + of61 + ";law leak 1+1;law toll |1;");
        // brackets are none, and one that can't stand there is a FAULT of another kind
        due.is("brackets", due.fine(1, "law flow not ((" + of61 + ")+((1)));").count(5), 64);
        due.fault(1, "law flow not (" + of61 + "+1)|1;");
        due.fault(1, "law flow not (" + of61 + "+1) |not 1;");
        due.fault(1, "law flow " + of61 + "+1+|+1;");
        // the KNOTS of a TEXT ahead do not count
        SidePonds x = new SidePonds();
        for (int i = 0; i < 3; i++) {
            due.is("again", Due.tell(x, "law flow not " + of61 + "+1;"), 1);
            due.is("and with a fault", Due.tell(x, "law flow not " + of61 + "+1+1;"), NONE);
        }
    }

    /** not stands where a B may stand, a comparison once in a C. */
    private static void orderOfE() {
        due.in("order of E");
        due.fine(1, "law flow not 1=2;");
        due.fine(1, "law flow 1 and not 2;");
        due.fine(1, "law flow (not 1)=(1<2);");
        due.fault(1, "law flow 1=|not 2;");
        due.fault(1, "law flow 1+|not 2;");
        due.fault(1, "law flow 1*|not 2;");
        due.fault(1, "law flow 1=2|=3;");
        due.fine(1, "law flow (1=2)=3;");
        due.fine(1, "law flow 1=2 and 2=3 or 3=4;");
        due.fault(1, "law flow |-1;");
        due.fault(1, "law flow 1+|-1;");
        due.fault(1, "law flow (|);");
    }

    // ---- told already, not told ahead, to itself

    /** Told already: a name (at W). */
    private static void namesTwice() {
        due.in("names twice");
        due.fault(3, ONE + "pond |p 1 0 0;");
        due.fault(3, ponds(6) + "pond |f 1 0 0;");
        due.fault(3, ponds(6) + "pond |a 0 0 0;");
        due.fault(3, ONE + "pond |p");
        due.fine(2, ONE + "pond pp 1 0 0;");
    }

    /** LOCKS: a POND (each once); told already: a LOCK (at W). */
    private static void locksTwice() {
        due.in("locks twice");
        due.fault(3, TWO + "lock p 1 1;lock |p 1 1;");
        due.fault(3, TWO + "lock p 1 1;lock q 1 1;lock |q 200 1;");
        due.fine(4, TWO + "lock q 1 1;lock p 1 1;");
        due.fault(4, "lock |p 1 1;" + ONE);
    }

    /** spring: a POND (each once), also if it is 0; told already: a spring of that POND (at W). */
    private static void springsTwice() {
        due.in("springs twice");
        due.fault(3, TWO + "spring p 0;spring |p 0;");
        due.fault(3, TWO + "spring p 1;spring q 1;spring |p 10;");
        due.fault(3, TWO + "spring q 1;spring p 1;spring |q 1;");
        due.fine(4, TWO + "spring q 1;spring p 1;");
        due.fault(4, TWO + "spring |r 1;");
    }

    /** PIPES: each two PONDS once, either way (at the second W); to itself (there, too). */
    private static void pipesTwice() {
        due.in("pipes twice");
        String three = TWO + "pond r 1 0 0;";
        due.fault(3, three + "pipe p q 1;pipe p |q 1;");
        due.fault(3, three + "pipe p q 1;pipe q |p 0;");
        due.fault(3, three + "pipe p q 1;pipe q r 1;pipe r |q 1;");
        due.fine(6, three + "pipe p q 1;pipe r q 1;pipe p r 1;");
        due.fault(5, three + "pipe p |p 1;");
        due.fault(5, three + "pipe p q 1;pipe r |r 0;");
        due.fault(4, three + "pipe |s s 1;");
        due.fault(4, three + "pipe p |s 1;");
        due.fault(4, three + "pipe |s p 1;");
    }

    /** jam, seed told already (at the word); a law of its RULE (at RULE). */
    private static void onceTold() {
        due.in("told once");
        due.fault(3, "jam 0;|jam 0;");
        due.fault(3, "jam 0;seed 0;|jam");
        due.fault(3, "seed 0;|seed 0;");
        due.fault(3, "seed 0;jam 0;|seed 100000;");
        due.fault(1, "jam |jam 0;");
        due.fault(1, "seed |seed 0;");
        for (String rule : new String[] {"flow", "leak", "toll"}) {
            due.fault(3, "law " + rule + " 1;law |" + rule + " 1;");
            due.fault(3, "law " + rule + " 1;law |" + rule);
        }
        due.fine(3, "law toll 1;law leak 1;law flow 1;");
        due.fault(3, "law toll 1;law leak 1;law flow 1;law |leak 1;");
        // each TEXT for itself
        SidePonds x = new SidePonds();
        for (int i = 0; i < 2; i++) {
            due.is("again", Due.tell(x, "jam 1;seed 1;law flow 1;law leak 1;law toll 1;" + ONE + "spring p 1;"), 7);
        }
    }

    /** A BOAT at a LOCK by its POND that isn't told ahead: no such POND, a POND that is none (at W). */
    private static void boatsOfLocks() {
        due.in("boats of locks");
        due.fault(4, TWO + "lock p 1 1;boat |q 1;");
        due.fault(4, TWO + "boat |q 100;");
        due.fault(4, TWO + "lock p 1 1;boat |r 1;");
        due.fault(4, TWO + "boat |p 1;lock p 1 1;");
        due.is("its lock", due.fine(5, TWO + "lock q 1 1;lock p 1 1;boat p 1;").boat(0, 0), 1);
    }

    /** FAULTS: the first along the text, of one place the least. */
    private static void firstAlongTheText() {
        due.in("the first along the text");
        due.fault(5, ONE + "pipe p |p 0;pond p 0 0 0;!");
        due.fault(4, ONE + "lock |q 200 200;pond p 1 0 0;");
        due.fault(3, ONE + "pond |p 0 0 0;");
        due.fault(2, "jam |101;jam 1;");
        due.fault(1, "jam 5 |101;");
        due.fault(1, "jam 5|!101;");
        due.fault(1, ONE + "pond |1 0 0;");
        due.fault(1, "law flow 1 |10000;");
        due.fault(2, "law flow |10000 10000;");
        due.fault(1, "law flow ((((((((1|(1");
    }

    // ---- TAPE and TEXT

    /** Twenty bytes come behind the TAPE; NONE, and none come, if it would have more than 700. */
    private static void fullTape() {
        due.in("full tape");
        SidePonds x = new SidePonds();
        for (int i = 1; i <= 34; i++) {
            due.is("feed", x.feed(0x20202020, 0x20202020, 0x20202020, 0x20202020, 0x20202020), 20 * i);
        }
        due.is("to 700", x.feed(0x20202020, 0x20202020, 0x6a616d20, 0x37372073, 0x65656420), 700);
        for (int i = 0; i < 3; i++) {
            due.is("more", x.feed(0x353b0a0a, 0, 0, 0, 0), NONE);
        }
        due.is("none came", x.text(701), -2);
        due.is("what came first stays", x.text(700), NONE);
        due.is("jam 77 seed", x.fault(0) * 1000 + x.fault(1), 1695);
        due.is("empty then", x.feed(0, 0, 0, 0, 0), 20);
        // a TEXT of 700 bytes, the last one counts
        SidePonds y = new SidePonds();
        due.is("all 700", Due.tell(y, " ".repeat(690) + "jam   100;"), 1);
        due.is("jam", y.holds(1, 0), 0);
        due.is("all 700", Due.tell(y, " ".repeat(691) + "jam   10;"), 1);
        due.is("699", Due.tell(y, " ".repeat(690) + "jam   10;"), 1);
        due.is("one short", Due.tell(y, " ".repeat(690) + "jam   100"), NONE);
        due.is("fault", y.fault(0) * 1000 + y.fault(1), 1699);
        due.is("700 signs", Due.tell(y, "(".repeat(700)), NONE);
        due.is("fault", y.fault(0) * 1000 + y.fault(1), 1000);
        due.is("700 words", Due.tell(y, "pond a 1 0 0;".repeat(2) + "a ".repeat(337)), NONE);
        due.is("fault", y.fault(0) * 1000 + y.fault(1), 3018);
    }

    /** Four bytes of each number, the highest first. */
    private static void bytesOfNumbers() {
        due.in("bytes of numbers");
        SidePonds x = new SidePonds();
        // 'p' 'o' 'n' 'd' ' ' 'z' ' ' '1' ' ' '0' ' ' '0' ';' and bytes of 255, 128 behind
        x.feed(0x706f6e64, 0x207a2031, 0x20302030, 0x3bff8000, MIN);
        due.is("text", x.text(13), 1);
        due.is("z", x.named(26 << 25), 0);
        x.feed(0x706f6e64, 0x207a2031, 0x20302030, 0x3bff8000, -1);
        due.is("with 255", x.text(14), NONE);
        due.is("at it", x.fault(0) * 100 + x.fault(1), 113);
        x.feed(0x200a200a, 0x0a0a0a0a, 0x20202020, 0x0a200a20, MIN);
        due.is("128", x.text(17), NONE);
        due.is("at it", x.fault(0) * 100 + x.fault(1), 116);
    }

    /** The TAPE's first n bytes are the TEXT, it is empty then; -2, and the TAPE stays: not so many, n below 0. */
    private static void lengths() {
        due.in("lengths");
        SidePonds x = new SidePonds();
        for (int n : new int[] {1, -1, MIN, MAX}) {
            due.is("of an empty tape", x.text(n), -2);
        }
        due.is("none of none", x.text(0), 0);
        Due.feed(x, "jam 5;jam 5;");
        for (int n : new int[] {21, -1, 22, 700, 701, MIN, MAX}) {
            due.is("not so many", x.text(n), -2);
            due.is("no fault", x.fault(0), 0);
            due.is("no place", x.fault(1), NONE);
        }
        due.is("all", x.text(20), NONE);
        due.is("jam twice", x.fault(0) * 100 + x.fault(1), 306);
        for (int n : new int[] {1, -1}) {
            due.is("empty", x.text(n), -2);
            due.is("the fault stays", x.fault(0) * 100 + x.fault(1), 306);
        }
        for (int n = 0; n <= 20; n++) {
            Due.feed(x, "jam 5;  seed 6; jam");
            due.is("first " + n, x.text(n), n == 0 ? 0 : n == 6 || n == 7 || n == 8 ? 1 : n == 15 || n == 16 ? 2 : NONE);
            due.is("fault", x.fault(0), n == 0 || n >= 6 && n <= 8 || n == 15 || n == 16 ? 0 : n < 17 ? 1 : n < 19 ? 1 : 3);
            due.is("empty then", x.text(1), -2);
        }
    }

    /** NONE with a FAULT: all else stays. */
    private static void allElseStays() {
        due.in("all else stays");
        String[] broken = {"pond x 1 1 1;pond x 1 1 1;", "law flow 1;law leak 1;law toll 1", "jam 99;seed 99;jam", "|",
            ponds(7) + pipes(10) + "lock a 1 1;boat a 0;boat a 0;turn 0 0 20;spring a 9;law flow 0;!"};
        for (String text : broken) {
            SidePonds x = Busy.canal();
            due.is("text", Due.tell(x, text), NONE);
            due.is("fault", x.fault(0) > 0, true);
            due.is("empty tape", x.text(1), -2);
            due.is("behind " + text, Busy.all(x, false), Busy.all(Busy.canal(), false));
        }
    }

    /** With a TEXT: MINUTE 0, WATER as told, nothing JAMMED, all BOATS wait, no TOLL ..: as on a new object. */
    private static void allIsNew() {
        due.in("all is new");
        String[] texts = {Busy.TEXT, Busy.TEXT.replace("seed 2652;", ""), Busy.TEXT.replace("jam 25;", ""), ponds(7) + pipes(10) + "lock a 0 9;boat a 0;turn 0 0 20;", "", ONE, TWO, PIPED,
            TWO + "lock q 0 0;boat q 0;pipe p q 1;turn 0 0 20;seed 5;jam 20;"};
        for (String text : texts) {
            for (int ahead = 0; ahead < 4; ahead++) {
                SidePonds x = Busy.canal();
                for (int i = 0; i < ahead; i++) {
                    Due.tell(x, i == 1 ? Busy.TEXT + "!" : Busy.TEXT);
                }
                SidePonds y = new SidePonds();
                due.is("text", Due.tell(x, text), Due.tell(y, text));
                due.is("by " + text, Busy.all(x, true), Busy.all(y, true));
            }
        }
    }

    /** FAULT of the latest text() that was not -2: 0, and no place, without. */
    private static void latestFault() {
        due.in("latest fault");
        SidePonds x = new SidePonds();
        due.is("of a new one", x.fault(0), 0);
        due.is("of a new one", x.fault(1), NONE);
        due.is("place 0", Due.tell(x, ";"), NONE);
        due.is("place 0", x.fault(0) * 10 + x.fault(1), 10);
        due.is("not so many", x.text(1), -2);
        due.is("stays", x.fault(0) * 10 + x.fault(1), 10);
        due.is("none", x.text(0), 0);
        due.is("none", x.fault(0), 0);
        due.is("none", x.fault(1), NONE);
        for (int what : new int[] {-1, 2, MIN, MAX}) {
            due.is("another what", x.fault(what), NONE);
        }
    }

    /** The number of a POND by its letters, 5 bits each, the first one highest of six, 0 behind the last one. */
    private static void namesByLetters() {
        due.in("names by letters");
        SidePonds x = Due.told("pond a 1 0 0;pond z 1 0 0;pond aa 1 0 0;pond aaaaaa 1 0 0;pond zzzzzz 1 0 0;pond zzzzz 1 0 0;");
        due.is("a", x.named(1 << 25), 0);
        due.is("z", x.named(26 << 25), 1);
        due.is("aa", x.named(1 << 25 | 1 << 20), 2);
        due.is("aaaaaa", x.named(1 << 25 | 1 << 20 | 1 << 15 | 1 << 10 | 1 << 5 | 1), 3);
        due.is("zzzzzz", x.named(26 << 25 | 26 << 20 | 26 << 15 | 26 << 10 | 26 << 5 | 26), 4);
        due.is("zzzzz", x.named(26 << 25 | 26 << 20 | 26 << 15 | 26 << 10 | 26 << 5), 5);
        int[] none = {0, 1, -1, MIN, MAX, 1 << 20, 2 << 25, 25 << 25, 27 << 25, 1 << 25 | 1, 1 << 30, 1 << 25 | 1 << 30,
            1 << 25 | MIN, 1 << 25 | 1 << 15, 26 << 25 | 26 << 20 | 26 << 15 | 26 << 10};
        for (int letters : none) {
            due.is("none " + letters, x.named(letters), NONE);
        }
        SidePonds y = new SidePonds();
        for (int letters : new int[] {0, 1 << 25, -1, MIN, MAX}) {
            due.is("without ponds", y.named(letters), NONE);
        }
    }

    // ---- helpers

    private static boolean isDigit(int sign) {
        return sign >= '0' && sign <= '9';
    }

    private static boolean isLetter(int sign) {
        return sign >= 'a' && sign <= 'z';
    }

    private static String ponds(int n) {
        StringBuilder b = new StringBuilder();
        for (int i = 0; i < n; i++) {
            b.append("pond ").append((char) ('a' + i)).append(" 1 0 0;");
        }
        return b.toString();
    }

    /** So many of the ten between five ponds. */
    private static String pipes(int n) {
        StringBuilder b = new StringBuilder();
        int told = 0;
        for (int i = 0; i < 5; i++) {
            for (int k = i + 1; k < 5; k++) {
                if (told < n) {
                    b.append("pipe ").append((char) ('a' + i)).append(' ').append((char) ('a' + k)).append(" 1;");
                    told++;
                }
            }
        }
        return b.toString();
    }

    public static void main(String[] args) {
        blanks();
        signsBehindNumber();
        signsForNumber();
        doubleSigns();
        lettersOfNames();
        wordsOfTheLanguage();
        wordsElsewhere();
        more();
        numbersOfPonds();
        numbersOfLocksPipesSprings();
        numbersOfTurnsAndBoats();
        numbersOfTheRest();
        pipesOfTurns();
        mostLines();
        numberedAsTheyCome();
        brackets();
        knots();
        orderOfE();
        namesTwice();
        locksTwice();
        springsTwice();
        pipesTwice();
        onceTold();
        boatsOfLocks();
        firstAlongTheText();
        fullTape();
        bytesOfNumbers();
        lengths();
        allElseStays();
        allIsNew();
        latestFault();
        namesByLetters();
        due.end();
    }
}
