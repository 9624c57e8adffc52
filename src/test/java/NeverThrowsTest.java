import java.lang.reflect.InvocationTargetException;
import java.lang.reflect.Method;
import java.util.Arrays;
import java.util.Comparator;
import java.util.NoSuchElementException;
import java.util.Random;
import java.util.Set;

/** Any calls with any arguments: nothing is thrown but what the document names, where it names it. */
public final class NeverThrowsTest {
    private static final Set<String> MAY_THROW = Set.of("block", "layer", "row");
    private static final int[] EDGES = {0, 1, -1, 2, 3, 9, 10, 15, 16, 47, 48, 80, 479, 480, 4799, Integer.MAX_VALUE, Integer.MIN_VALUE, 65536, -9};
    private static final String SIGNS = "0123456789../././lmr>;tklpqgnmhj()+-*/<>=";

    public static void main(String[] args) throws IllegalAccessException {
        int wrong = 0;
        int calls = 0;
        Method[] face = FelledHasLost.class.getDeclaredMethods();
        face = Arrays.stream(face).filter(m -> (m.getModifiers() & 1) == 1).toArray(Method[]::new);
        Arrays.sort(face, Comparator.comparing(Method::getName));
        for (int seed = 0; seed < 400 && wrong < 10; seed++) {
            Random random = new Random(seed);
            FelledHasLost x = Check.on(tower(random));
            for (int n = 0; n < 480 && wrong < 10; n++) {
                Method m = face[random.nextInt(face.length)];
                Object[] with = new Object[m.getParameterCount()];
                for (int i = 0; i < with.length; i++) {
                    with[i] = argument(random, m.getName());
                }
                calls++;
                try {
                    m.invoke(x, with);
                } catch (InvocationTargetException e) {
                    boolean due = e.getCause().getClass() == NoSuchElementException.class && MAY_THROW.contains(m.getName());
                    if (!due) {
                        wrong++;
                        System.out.println("seed " + seed + ": " + m.getName() + Arrays.toString(with) + " threw " + e.getCause());
                    }
                }
            }
        }
        System.out.println(calls + " calls, " + wrong + " threw what they must not");
        if (wrong != 0) {
            System.exit(1);
        }
    }

    private static String tower(Random random) {
        StringBuilder s = new StringBuilder();
        int layers = random.nextInt(17);
        for (int l = 0; l < layers; l++) {
            s.append(l > 0 ? "/" : "").append(random.nextInt(10)).append(random.nextInt(3) == 0 ? "." : "5").append(random.nextInt(10));
        }
        return s.toString();
    }

    private static int argument(Random random, String name) {
        if (name.equals("sign")) {
            int v = 0;
            for (int i = 0; i < 4; i++) {
                v = v << 8 | (random.nextInt(12) == 0 ? random.nextInt(256) : SIGNS.charAt(random.nextInt(SIGNS.length())));
            }
            return v;
        }
        int kind = random.nextInt(4);
        return kind == 0 ? EDGES[random.nextInt(EDGES.length)] : kind == 1 ? random.nextInt(480) : random.nextInt(12);
    }
}
