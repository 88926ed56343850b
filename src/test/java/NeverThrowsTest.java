import java.lang.reflect.InvocationTargetException;
import java.lang.reflect.Method;
import java.lang.reflect.Modifier;
import java.util.Arrays;
import java.util.Comparator;
import java.util.NoSuchElementException;
import java.util.Random;

/**
 * Calls of every method of the face with arguments by chance, in states by chance, behind texts that are whole or
 * broken: nothing but what promise 6 names is ever thrown, and the same calls give the same answers.
 */
public final class NeverThrowsTest {
    private static final Due due = new Due();
    private static final int[] EDGES = {-2147483648, -2, -1, 0, 1, 2, 3, 4, 5, 6, 7, 8, 9, 10, 24, 25, 60, 61, 99, 100,
        127, 128, 199, 200, 201, 700, 701, 999, 1000, 9999, 10000, 2147483647};

    private static Method[] face() {
        Method[] all = Arrays.stream(SidePonds.class.getDeclaredMethods())
            .filter(m -> Modifier.isPublic(m.getModifiers())).toArray(Method[]::new);
        Arrays.sort(all, Comparator.comparing(Method::getName));
        return all;
    }

    private static String broken(Random r, String text) {
        StringBuilder b = new StringBuilder(text);
        for (int k = r.nextInt(4); k > 0 && b.length() > 0; k--) {
            int at = r.nextInt(b.length());
            switch (r.nextInt(4)) {
                case 0: b.deleteCharAt(at); break;
                case 1: b.setCharAt(at, (char) r.nextInt(256)); break;
                case 2: b.insert(at, ";(<>=+ 0a".charAt(r.nextInt(9))); break;
                default: b.setLength(at); break;
            }
        }
        if (r.nextInt(6) == 0) {
            b.insert(0, "law flow " + "not ".repeat(r.nextInt(70)) + "(".repeat(r.nextInt(12)) + "1");
        }
        return b.length() > 700 ? b.substring(0, 700) : b.toString();
    }

    private static Object[] arguments(Random r, Method m) {
        Class<?>[] types = m.getParameterTypes();
        Object[] given = new Object[types.length];
        for (int i = 0; i < types.length; i++) {
            int any = r.nextInt(20) == 0 ? r.nextInt() : r.nextBoolean() ? r.nextInt(5) : EDGES[r.nextInt(EDGES.length)];
            given[i] = types[i] == boolean.class ? (Object) r.nextBoolean() : (Object) any;
        }
        return given;
    }

    private static String answer(SidePonds x, Method m, Object[] given) {
        try {
            return String.valueOf(m.invoke(x, given));
        } catch (InvocationTargetException e) {
            Throwable thrown = e.getCause();
            boolean fine = m.getName().equals("pond")
                && (thrown.getClass() == IndexOutOfBoundsException.class || thrown.getClass() == NoSuchElementException.class);
            due.is(m.getName() + Arrays.toString(given) + " threw " + thrown, fine, true);
            return thrown.getClass().getName();
        } catch (IllegalAccessException e) {
            throw new IllegalStateException(e);
        }
    }

    private static String run(int seed, Method[] face) {
        Random r = new Random(seed);
        StringBuilder all = new StringBuilder();
        SidePonds x = new SidePonds();
        for (int part = 0; part < 3; part++) {
            String text = new Model(r).text;
            all.append(Due.tell(x, r.nextBoolean() ? text : broken(r, text))).append(' ');
            for (int k = 0; k < 80; k++) {
                Method m = face[r.nextInt(face.length)];
                if (!m.getName().equals("text") || r.nextInt(8) == 0) {
                    all.append(m.getName()).append(answer(x, m, arguments(r, m))).append(' ');
                }
            }
        }
        return all.toString();
    }

    public static void main(String[] args) {
        Method[] face = face();
        due.in("the face");
        due.is("methods", face.length, 45);
        int runs = args.length > 0 ? Integer.parseInt(args[0]) : 300;
        for (int seed = 0; seed < runs; seed++) {
            due.in("run " + seed);
            due.is("the same calls, the same answers", run(seed, face).equals(run(seed, face)), true);
        }
        due.end();
    }
}
