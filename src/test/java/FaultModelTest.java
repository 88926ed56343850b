import java.math.BigInteger;
import java.util.ArrayList;
import java.util.HashMap;
import java.util.HashSet;
import java.util.List;
import java.util.Map;
import java.util.Random;
import java.util.Set;
import java.util.regex.Matcher;
import java.util.regex.Pattern;

/**
 * Texts by chance, most of them with a FAULT, and what is told of them by another way than the class takes: token by
 * token, with what may stand next, and of each place all FAULTS that it has.
 */
public final class FaultModelTest {
    private static final Due due = new Due();
    private static final Pattern TOKEN = Pattern.compile("[a-z]+|[0-9]+|<=|<>|>=|[^ \n]");
    private static final Map<String, String[]> LINES = new HashMap<>();
    private static final Map<String, Integer> MOST = Map.of("pond", 7, "lock", 3, "pipe", 10, "turn", 12, "boat", 8);
    private static final Set<String> RULES = Set.of("flow", "leak", "toll");
    private static final Set<String> NAMES = Set.of("area", "floor", "water", "wide", "open", "boats", "minute");
    private static final Set<String> COMPARING = Set.of("<", "<=", "=", "<>", ">=", ">");
    private static final Set<String> LINKING = Set.of("or", "and");
    private static final Set<String> COUNTING = Set.of("+", "-", "*", "/");
    private static final String[] ALL = {"pond", "lock", "pipe", "turn", "boat", "spring", "jam", "seed", "law", "flow",
        "leak", "toll", "or", "and", "not", "area", "floor", "water", "wide", "open", "boats", "minute", ";", "(", ")", "+",
        "-", "*", "/", "<", "<=", "=", "<>", ">=", ">", "a", "b", "lower", "seventh", "springs", "Z", "!", "\t", "\u00e9",
        "0", "1", "9", "10", "20", "99", "100", "999", "1000", "9999", "10000", "99999999999999999999", "007", "00000000000"};

    static {
        LINES.put("pond", new String[] {"new", "1-20", "0-99", "0-999", ";"});
        LINES.put("lock", new String[] {"lock", "0-199", "0-199", ";"});
        LINES.put("pipe", new String[] {"pond", "second", "1-99", ";"});
        LINES.put("turn", new String[] {"0-9", "0-99", "1-20", ";"});
        LINES.put("boat", new String[] {"boat", "0-99", ";"});
        LINES.put("spring", new String[] {"spring", "0-9", ";"});
        LINES.put("jam", new String[] {"0-100", ";"});
        LINES.put("seed", new String[] {"0-99999", ";"});
        LINES.put("law", new String[] {"rule", "E"});
    }

    /** What has been told so far, and where in a LINE it is. */
    private final Map<String, Integer> told = new HashMap<>();
    private final Set<String> once = new HashSet<>();
    private String word;
    private int part;
    private String first;
    private int knots;
    /** Of E: whether a side must come, whether a not may, and of each '(' open whether there was a comparison ahead. */
    private boolean side;
    private boolean mayDeny;
    private boolean compared;
    private final List<Boolean> open = new ArrayList<>();
    private int lines;
    private int fault;
    private int place = -1;

    private static boolean isWord(String t) {
        return t.charAt(0) >= 'a' && t.charAt(0) <= 'z';
    }

    private static boolean isNumber(String t) {
        return t.charAt(0) >= '0' && t.charAt(0) <= '9';
    }

    private static boolean isOwn(String t) {
        return isWord(t) && t.length() <= 6 && !LINES.containsKey(t) && !RULES.contains(t) && !NAMES.contains(t)
            && !LINKING.contains(t) && !t.equals("not");
    }

    FaultModelTest(String text) {
        Matcher m = TOKEN.matcher(text);
        while (fault == 0 && m.find()) {
            fault = word == null ? ofLine(m.group()) : ofPart(m.group());
            place = fault == 0 ? -1 : m.start();
        }
        if (fault == 0 && word != null) {
            fault = 1;
            place = text.length();
        }
    }

    private int count(String what) {
        return told.getOrDefault(what, 0);
    }

    private int ofLine(String t) {
        if (!LINES.containsKey(t)) {
            return 1;
        }
        if (MOST.containsKey(t) && count(t) == MOST.get(t)) {
            return 2;
        }
        if ((t.equals("jam") || t.equals("seed")) && !once.add(t)) {
            return 3;
        }
        word = t;
        part = 0;
        return 0;
    }

    private int ofPart(String t) {
        String wanted = LINES.get(word)[part];
        if (wanted.equals("E")) {
            return ofE(t);
        }
        part++;
        if (wanted.equals(";")) {
            return t.equals(";") ? endLine() : 1;
        }
        if (wanted.contains("-")) {
            return isNumber(t) ? ofNumber(t, wanted.split("-")) : 1;
        }
        if (wanted.equals("rule")) {
            side = true;
            mayDeny = true;
            compared = false;
            return !RULES.contains(t) ? 1 : once.add("law " + t) ? 0 : 3;
        }
        return isOwn(t) ? ofName(t, wanted) : 1;
    }

    private int endLine() {
        told.merge(word, 1, Integer::sum);
        word = null;
        lines++;
        return 0;
    }

    private int ofNumber(String t, String[] ends) {
        BigInteger n = new BigInteger(t);
        if (n.compareTo(new BigInteger(ends[0])) < 0 || n.compareTo(new BigInteger(ends[1])) > 0) {
            return 2;
        }
        return word.equals("turn") && part == 1 && n.intValue() >= count("pipe") ? 4 : 0;
    }

    private int ofName(String t, String wanted) {
        boolean known = once.contains("pond " + t);
        switch (wanted) {
            case "new": return once.add("pond " + t) ? 0 : 3;
            case "pond":
                first = t;
                return known ? 0 : 4;
            case "second":
                if (!known) {
                    return 4;
                }
                if (t.equals(first)) {
                    return 5;
                }
                return once.add("pipe " + first + " " + t) & once.add("pipe " + t + " " + first) ? 0 : 3;
            case "boat": return once.contains("lock " + t) ? 0 : 4;
            default: return !known ? 4 : once.add(wanted + " " + t) ? 0 : 3;
        }
    }

    private int ofE(String t) {
        if (side) {
            return ofSide(t);
        }
        if (t.equals(";") && open.isEmpty()) {
            return endLine();
        }
        if (t.equals(")") && !open.isEmpty()) {
            compared = open.remove(open.size() - 1);
            return 0;
        }
        boolean links = LINKING.contains(t);
        boolean compares = COMPARING.contains(t) && !compared;
        if (!links && !compares && !COUNTING.contains(t)) {
            return 1;
        }
        compared = !links && (compares || compared);
        side = true;
        mayDeny = links;
        return ofKnot();
    }

    private int ofSide(String t) {
        if (t.equals("not") && mayDeny) {
            return ofKnot();
        }
        if (t.equals("(")) {
            open.add(compared);
            compared = false;
            mayDeny = true;
            return open.size() > 8 ? 2 : 0;
        }
        if (!isNumber(t) && !NAMES.contains(t)) {
            return 1;
        }
        side = false;
        return isNumber(t) && new BigInteger(t).compareTo(BigInteger.valueOf(9999)) > 0 ? 2 : ofKnot();
    }

    private int ofKnot() {
        knots++;
        return knots > 64 ? 2 : 0;
    }

    // ---- texts by chance

    private static String number(Random r, String[] ends) {
        int least = Integer.parseInt(ends[0]);
        int most = Integer.parseInt(ends[1]);
        int n = r.nextInt(60) == 0 ? most + 1 : r.nextInt(4) == 0 ? most : least + r.nextInt(most - least + 1);
        return r.nextInt(9) == 0 ? "0" + n : String.valueOf(n);
    }

    private static String name(Random r, int ponds) {
        return "pqrstuvw".substring(0, Math.max(1, Math.min(8, ponds + (r.nextInt(9) == 0 ? 1 : 0)))).charAt(
            r.nextInt(Math.max(1, Math.min(7, ponds)))) + (r.nextInt(40) == 0 ? "x" : "");
    }

    private static void addE(Random r, StringBuilder b, int deep, int most) {
        int parts = 1 + r.nextInt(deep == 0 ? most : 3);
        String[] signs = {" or ", " and ", "<", "<=", "=", "<>", ">=", ">", "+", "-", "*", "/", " + ", " / ", "*"};
        for (int i = 0; i < parts; i++) {
            // a comparison behind a comparison and a not behind a sign can't stand there, so they come now and then
            int sign = r.nextInt(8) == 0 ? r.nextInt(signs.length) : r.nextInt(3) == 0 ? r.nextInt(2) : 8 + r.nextInt(7);
            b.append(i > 0 ? signs[sign] : "");
            b.append((i == 0 || sign < 2) && r.nextInt(4) == 0 || r.nextInt(90) == 0 ? " not " : "");
            if (deep < 9 && r.nextInt(most > 9 ? 40 : 3) == 0) {
                b.append('(');
                addE(r, b, deep + 1, most);
                b.append(')');
            } else {
                b.append(r.nextBoolean() ? ALL[15 + r.nextInt(7)] : String.valueOf(r.nextInt(10000)));
            }
        }
    }

    private static void addLine(Random r, StringBuilder b, String its, int ponds) {
        b.append(its);
        for (String wanted : LINES.get(its)) {
            b.append(r.nextInt(30) == 0 ? "\n" : wanted.equals(";") ? "" : " ");
            if (wanted.equals("E")) {
                addE(r, b, 0, r.nextInt(4) == 0 ? 50 : 9);
                b.append(';');
            } else if (wanted.equals("rule")) {
                b.append(ALL[9 + r.nextInt(3)]);
            } else if (wanted.equals("new")) {
                b.append((char) ('p' + ponds));
            } else if (wanted.equals(";")) {
                b.append(';');
            } else if (its.equals("turn") && wanted.equals("0-9") && r.nextInt(20) > 0) {
                b.append('0');
            } else {
                b.append(wanted.contains("-") ? number(r, wanted.split("-")) : name(r, ponds));
            }
        }
    }

    private static String text(Random r) {
        StringBuilder b = new StringBuilder();
        int ponds = 0;
        String[] words = {"pond", "pond", "pond", "lock", "pipe", "pipe", "turn", "turn", "boat", "spring", "jam", "seed",
            "law", "law"};
        String often = r.nextBoolean() ? null : words[r.nextInt(words.length)];
        boolean lawsAlone = r.nextInt(6) == 0;
        if (!lawsAlone && r.nextInt(3) == 0) {
            b.append("pond p 2 10 60;pond q 3 8 0;pipe q p 5;lock p 9 12;");
            ponds = 2;
        }
        for (int k = lawsAlone ? 3 : 2 + r.nextInt(20); k > 0; k--) {
            String its = ponds == 0 ? "pond" : often != null && r.nextInt(3) > 0 ? often : words[r.nextInt(words.length)];
            its = lawsAlone ? "law" : its;
            addLine(r, b, its, ponds);
            ponds += its.equals("pond") ? 1 : 0;
            b.append(r.nextInt(5) == 0 ? " " : "");
        }
        for (int k = r.nextInt(3); k > 0; k--) {
            mar(r, b);
        }
        return b.length() > 700 ? b.substring(0, 700) : b.toString();
    }

    private static void mar(Random r, StringBuilder b) {
        int at = r.nextInt(b.length() + 1);
        String other = ALL[r.nextInt(ALL.length)];
        switch (r.nextInt(4)) {
            case 0: b.insert(at, other); break;
            case 1: b.insert(at, " " + other + " "); break;
            case 2: b.delete(at, Math.min(b.length(), at + 1 + r.nextInt(4))); break;
            default: b.setLength(r.nextInt(6) == 0 ? at : b.length()); break;
        }
    }

    public static void main(String[] args) {
        int runs = args.length > 0 ? Integer.parseInt(args[0]) : 30000;
        int first = args.length > 1 ? Integer.parseInt(args[1]) : 0;
        int[] seen = new int[6];
        for (int seed = first; seed < first + runs; seed++) {
            String text = text(new Random(seed));
            FaultModelTest m = new FaultModelTest(text);
            SidePonds x = new SidePonds();
            due.in("run " + seed + " of " + text.replace('\n', ' '));
            due.is("text", Due.tell(x, text), m.fault == 0 ? m.lines : SidePonds.NONE);
            due.is("fault(0)", x.fault(0), m.fault);
            due.is("fault(1)", x.fault(1), m.place);
            due.is("count(5)", x.count(5), m.fault == 0 ? m.knots : 0);
            due.is("count(0)", x.count(0), m.fault == 0 ? m.count("pond") : 0);
            due.is("count(3)", x.count(3), m.fault == 0 ? m.count("turn") : 0);
            seen[m.fault]++;
        }
        due.in("all runs");
        for (int which = 0; which < seen.length && runs >= 30000; which++) {
            due.is("enough of fault " + which, seen[which] > runs / 200, true);
        }
        due.end();
    }
}
