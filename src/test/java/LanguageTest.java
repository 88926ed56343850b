import java.io.IOException;
import java.lang.reflect.Constructor;
import java.lang.reflect.Field;
import java.lang.reflect.Method;
import java.lang.reflect.Modifier;
import java.nio.file.Files;
import java.nio.file.Path;
import java.util.Arrays;
import java.util.List;
import java.util.Set;
import java.util.TreeSet;
import java.util.stream.Collectors;

/** The face as the document has it, and the rules of ../shared/LANGUAGE.md that the compiled class and its lines show. */
public final class LanguageTest {
    private static final Due due = new Due();

    private static final List<String> FACE = List.of(
        "int feed(int,int,int,int,int)", "int text(int)", "int fault(int)", "int named(int)", "int pond(int,int)",
        "int level(int,int)", "int pipe(int,int)", "int lock(int,int)", "int boat(int,int)", "long law(int,int)",
        "int runs(int,int)", "int draw(int,int)", "int fill(int,int)", "int spill(int,int)", "boolean mend(int)",
        "int go(int)", "int ahead(int,int,int)", "int upWhen(int)", "int joined(int,int)", "int needs(int,int)",
        "int spare(int,int)", "int lift(int)", "int fewest(int,int,int)", "int draws(int,int,int)", "int highest(int)",
        "int apart(int,int,int)", "int still(int,int)", "int reach(int)", "int pass(int,int)", "int lockfuls(int,int)",
        "int game(int,int,int)", "int rests(int,int)", "int rest(int,int,int)", "long holds(int,int)",
        "int see(int,int,int,boolean)", "int strike(int)", "boolean known(int)", "int leaks(int)", "int ask(int,int)",
        "int chance(int,int,int)", "int tried(int,int,int)", "int undo()", "int keep()", "int back()", "int count(int)");

    private static String written(Method m) {
        return m.getReturnType().getName() + " " + m.getName() + Arrays.stream(m.getParameterTypes())
            .map(Class::getName).collect(Collectors.joining(",", "(", ")"));
    }

    private static void checkFace() {
        due.in("the face (rule 1)");
        Set<String> has = new TreeSet<>();
        Set<String> publicNames = new TreeSet<>();
        Set<String> privateNames = new TreeSet<>();
        for (Method m : SidePonds.class.getDeclaredMethods()) {
            if (Modifier.isPublic(m.getModifiers())) {
                has.add(written(m));
                publicNames.add(m.getName());
                due.is(m.getName() + " is an object's", Modifier.isStatic(m.getModifiers()), false);
            } else {
                privateNames.add(m.getName());
                due.is(m.getName() + " is private", Modifier.isPrivate(m.getModifiers()), true);
            }
            String thrown = Arrays.stream(m.getExceptionTypes()).map(Class::getSimpleName).collect(Collectors.joining(","));
            due.is(m.getName() + " throws", thrown,
                m.getName().equals("pond") ? "IndexOutOfBoundsException,NoSuchElementException" : "");
        }
        due.is("methods", has.toString(), new TreeSet<>(FACE).toString());
        privateNames.retainAll(publicNames);
        due.is("private methods with a name of the face", privateNames.toString(), "[]");
        Constructor<?>[] made = SidePonds.class.getDeclaredConstructors();
        due.is("constructors", made.length, 1);
        due.is("a public one", Modifier.isPublic(made[0].getModifiers()) && made[0].getParameterCount() == 0, true);
        due.is("a public final class", SidePonds.class.getModifiers(), Modifier.PUBLIC | Modifier.FINAL);
        for (Field f : SidePonds.class.getDeclaredFields()) {
            due.is(f.getName() + " is private", Modifier.isPrivate(f.getModifiers()), !f.getName().equals("NONE"));
        }
    }

    private static void checkClass(Class<?> c) {
        due.in(c.getName() + " (rules 5 and 11)");
        int own = 0;
        for (Field f : c.getDeclaredFields()) {
            boolean isStatic = Modifier.isStatic(f.getModifiers());
            own += isStatic ? 0 : 1;
            due.is(f.getName() + " is final", !isStatic || Modifier.isFinal(f.getModifiers()), true);
        }
        due.is("some twenty fields", own <= 20, true);
        for (Method m : c.getDeclaredMethods()) {
            due.is(m.getName() + " takes seven at most", m.getParameterCount() <= 7, true);
        }
    }

    private static void checkClasses() {
        checkClass(SidePonds.class);
        Class<?>[] inside = SidePonds.class.getDeclaredClasses();
        due.in("the classes inside (rules 2 and 11)");
        due.is("some twelve classes", inside.length + 1 <= 12, true);
        for (Class<?> c : inside) {
            due.is(c.getName() + " is static", Modifier.isStatic(c.getModifiers()), true);
            due.is(c.getName() + " is not public", Modifier.isPublic(c.getModifiers()), false);
        }
        for (Class<?> c : inside) {
            checkClass(c);
        }
    }

    /** What a line may not have. A comment may say it, so comments are left out. */
    private static void checkLines(List<String> lines) {
        String[] never = {"catch", "finally", "synchronized", "assert ", "instanceof", "->", "::", "package ",
            "static {", "@", "System.", "Thread", "Random", "Exact(", "hashCode", "toString"};
        for (int i = 0; i < lines.size(); i++) {
            String line = lines.get(i).strip();
            due.in("line " + (i + 1));
            due.is("signs 32 to 126", lines.get(i).chars().allMatch(c -> c >= 32 && c <= 126), true);
            if (line.startsWith("//") || line.startsWith("*") || line.startsWith("/*")) {
                continue;
            }
            for (String one : never) {
                due.is("has " + one, line.contains(one), false);
            }
            if (line.startsWith("import ")) {
                due.is("an import", line, "import java.util.NoSuchElementException;");
            }
        }
    }

    /** Rows are made with the object and used again, as all calls of a run live in one room. */
    private static void checkWhatIsMade(List<String> lines) {
        due.in("what is made");
        long calls = lines.stream().map(String::strip).filter(l -> l.contains("new ") && l.contains("throw ")).count();
        due.is("exceptions", calls, 2);
        for (String line : lines) {
            String l = line.strip();
            boolean comment = l.startsWith("//") || l.startsWith("*") || l.startsWith("/*");
            boolean field = l.matches("(private )?(final )?[A-Za-z]+(\\[\\])? \\w+ = new .*;");
            boolean inConstructor = l.matches("[a-z]\\w* = new .*;");
            boolean thrown = l.matches("(default: )?throw new .*;");
            due.is("a row or an object made by " + l, l.contains("new ") && !comment && !field && !inConstructor && !thrown,
                false);
        }
    }

    public static void main(String[] args) throws IOException {
        List<String> lines = Files.readAllLines(Path.of("src/main/java/SidePonds.java"));
        checkFace();
        checkClasses();
        checkLines(lines);
        checkWhatIsMade(lines);
        due.end();
    }
}
