/** The language of the TEXT: what it takes, and each FAULT with its place (promises 3 and 4). */
public final class FaultsTest {
    private static final Due due = new Due();
    private static final String POND = "pond p 1 0 0;";
    private static final String TWO = "pond p 1 0 0;pond q 1 0 0;";
    private static final String PIPED = TWO + "pipe p q 1;";

    private static void fault(int which, String marked) {
        due.fault(which, marked);
    }

    private static SidePonds fine(int lines, String text) {
        return due.fine(lines, text);
    }

    private static String times(int n, String part) {
        return part.repeat(n);
    }

    private static void strange() {
        fault(1, "|;");
        fault(1, "|p");
        fault(1, "|5");
        fault(1, "|Pond p 1 0 0;");
        fault(1, "|flow flow 1;");
        fault(1, "|leak 1;");
        fault(1, "|area;");
        fault(1, "|not 1;");
        fault(1, "|<>");
        fault(1, "law |or 1;");
        fault(1, "law |law 1;");
        fault(1, "law |seed 1;");
        fault(1, "|" + times(700, ";"));
        fault(1, "pond |");
        fault(1, "pond p 1 0 0|");
        fault(1, "pond p 1 0 0   |");
        fault(1, "pond |5 1 0 0;");
        fault(1, "pond |pond 1 0 0;");
        fault(1, "pond |or 1 0 0;");
        fault(1, "pond |minute 1 0 0;");
        fault(1, "pond |abcdefg 1 0 0;");
        fault(1, "|abcdefg");
        fault(1, "pond p |x 0 0;");
        fault(1, "pond p 1 0 0 |0;");
        fault(1, "pond p 1 0|.0;");
        fault(1, "pond p 1|\t0 0;");
        fault(1, "pond p 1 0 0;|\u00e9");
        fault(1, POND + "|\r");
        fault(1, "|pondp 1 0 0;");
        fault(1, "law |area 1;");
        fault(1, "law |p 1;");
        fault(1, "law flow |;");
        fault(1, "law flow 1|");
        fault(1, "law flow 1 |2;");
        fault(1, "law flow 1+|;");
        fault(1, "law flow 1+|not 2;");
        fault(1, "law flow 1=|not 2;");
        fault(1, "law flow 1<2|<3;");
        fault(1, "law flow 1=2|<>3;");
        fault(1, "law flow 1< |=3;");
        fault(1, "law flow 1>|<3;");
        fault(1, "law flow 1=|>3;");
        fault(1, "law flow 1=|=3;");
        fault(1, "law flow |-1;");
        fault(1, "law flow (1|;");
        fault(1, "law flow 1|);");
        fault(1, "law flow (|);");
        fault(1, "law flow |p;");
        fault(1, "law flow |pond;");
        fault(1, "law flow 1 or|;");
        fault(1, "law flow |and 1;");
        fault(1, "law flow |areafloor;");
        fault(1, "jam|;");
        fault(1, "turn |p 0 1;");
        // what is first along the text counts, whatever its number
        fault(1, "|;pond p 0 0 0;");
        fault(2, "pond p |0 0 0 !");
        fault(3, POND + "pond |p !");
        fault(4, "lock |p !");
        fault(5, POND + "pipe p |p !");
    }

    private static void tooMuch() {
        fault(2, "pond p |0 0 0;");
        fault(2, "pond p |21 0 0;");
        fault(2, "pond p 20 |100 0;");
        fault(2, "pond p 20 99 |1000;");
        fault(2, "pond p 20 99 |99999999999999999999;");
        fault(2, POND + "lock p |200 0;");
        fault(2, POND + "lock p 199 |200;");
        fault(2, TWO + "pipe p q |0;");
        fault(2, TWO + "pipe p q |100;");
        fault(2, PIPED + "turn |10 0 1;");
        fault(2, PIPED + "turn 0 |100 1;");
        fault(2, PIPED + "turn 0 99 |0;");
        fault(2, PIPED + "turn 0 99 |21;");
        fault(2, POND + "lock p 1 1;boat p |100;");
        fault(2, POND + "spring p |10;");
        fault(2, "jam |101;");
        fault(2, "seed |100000;");
        fault(2, "law flow |10000;");
        fault(2, ponds(7) + "|pond x 1 0 0;");
        fault(2, ponds(4) + "lock a 1 1;lock b 1 1;lock c 1 1;|lock d 1 1;");
        fault(2, ponds(4) + "lock a 1 1;lock b 1 1;lock c 1 1;|lock");
        fault(2, ponds(5) + tenPipes() + "|pipe a a 1;");
        fault(2, PIPED + times(12, "turn 0 0 1;") + "|turn 0 0 1;");
        fault(2, POND + "lock p 1 1;" + times(8, "boat p 0;") + "|boat p 0;");
        fault(2, "law flow ((((((((|(1)))))))));");
        fault(2, "law flow " + "1" + times(31, "+1") + "+|1;");
        fault(2, "law flow 1" + times(30, "+1") + ";law leak 1+1|+1;");
        fault(2, "law flow " + times(64, "not ") + "|1;");
        fault(2, "law flow " + times(64, "not ") + "|not 1;");
        fault(1, "law flow " + times(64, "not ") + "|+ 1;");
    }

    private static void told() {
        fault(3, POND + "pond |p 2 0 0;");
        fault(3, POND + "lock p 1 1;lock |p 1 1;");
        fault(3, POND + "spring p 0;spring |p 0;");
        fault(3, PIPED + "pipe p |q 2;");
        fault(3, PIPED + "pipe q |p 2;");
        fault(3, "jam 0;|jam 0;");
        fault(3, "seed 0;|seed 0;");
        fault(3, "law toll 1;law |toll 1;");
        fault(4, "lock |p 1 1;");
        fault(4, "spring |p 1;");
        fault(4, "pipe |p p 1;");
        fault(4, POND + "pipe p |q 1;");
        fault(4, POND + "pipe |q p 1;");
        fault(4, TWO + "turn |0 0 1;");
        fault(4, PIPED + "turn |1 0 1;");
        fault(4, POND + "boat |p 0;");
        fault(4, POND + "boat |q 0;");
        fault(4, POND + "pond q 1 1 1;lock q 1 1;boat |p 0;");
        fault(5, POND + "pipe p |p 1;");
        fault(5, PIPED + "pipe q |q 0;");
    }

    private static String ponds(int n) {
        StringBuilder b = new StringBuilder();
        for (int i = 0; i < n; i++) {
            b.append("pond ").append((char) ('a' + i)).append(" 1 0 0;");
        }
        return b.toString();
    }

    private static String tenPipes() {
        StringBuilder b = new StringBuilder();
        for (int i = 0; i < 5; i++) {
            for (int k = i + 1; k < 5; k++) {
                b.append("pipe ").append((char) ('a' + i)).append((char) 32).append((char) ('a' + k)).append(" 1;");
            }
        }
        return b.toString();
    }

    private static void taken() {
        fine(0, "");
        fine(0, " \n ");
        fine(1, "pond abcdef 20 99 999;");
        fine(1, "\npond\np\n1 0 0 ;\n");
        fine(2, "pond p1 0 0;pond q001 00 000;");
        fine(5, ponds(4) + "lock a 199 0;");
        fine(15, ponds(5) + tenPipes());
        fine(16, ponds(5) + tenPipes() + "turn 9 0 1;");
        fine(15, PIPED + times(12, "turn 0 99 20;"));
        fine(10, POND + "lock p 1 1;" + times(8, "boat p 99;"));
        fine(2, "jam 100;seed 99999;");
        due.is("knots of none", fine(0, "").count(5), 0);
        due.is("knots", fine(1, "law flow ((((((((9999))))))));").count(5), 1);
        due.is("knots", fine(1, "law flow (((1)))+((((((((1))))))));").count(5), 3);
        due.is("knots", fine(1, "law flow " + times(63, "not ") + "1;").count(5), 64);
        due.is("knots", fine(3, "law flow 1;law leak 1+1;law toll not(2<>3);").count(5), 8);
        due.is("knots", fine(1, "law flow 1<=2 and 1>=2 or 1<>2;").count(5), 11);
    }

    /** A fault leaves all as it was, but for the TAPE. */
    private static void stays() {
        SidePonds x = Due.told("pond p 2 3 10;seed 5;");
        due.in("after a fault");
        x.fill(0, 5);
        x.keep();
        x.see(1, 0, 0, true);
        due.is("text", Due.tell(x, "pond q 1 1 1;pond q"), SidePonds.NONE);
        due.is("fault", x.fault(0) * 100 + x.fault(1), 318);
        due.is("feed", x.feed(0, 0, 0, 0, 0), 20);
        due.is("named p", x.named(Due.letters("p")), 0);
        due.is("named q", x.named(Due.letters("q")), SidePonds.NONE);
        due.is("water", x.count(7), 15);
        due.is("facts", x.count(13), 1);
        due.is("undo", x.undo(), 0);
        due.is("back", x.back(), 0);
        due.is("water", x.count(7), 15);
        due.is("text of too much", x.text(21), -2);
        due.is("text below 0", x.text(-1), -2);
        due.is("text below 0", x.text(Integer.MIN_VALUE), -2);
        due.is("fault stays", x.fault(0), 3);
        due.is("the tape stays", x.feed(0, 0, 0, 0, 0), 40);
        due.is("text of zeros", x.text(40), SidePonds.NONE);
        due.is("fault", x.fault(0) * 100 + x.fault(1), 100);
        due.is("text of none", x.text(0), 0);
        due.is("no fault", x.fault(0), 0);
        due.is("no place", x.fault(1), SidePonds.NONE);
    }

    public static void main(String[] args) {
        strange();
        tooMuch();
        told();
        taken();
        stays();
        due.end();
    }
}
