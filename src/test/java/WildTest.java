import java.lang.reflect.InvocationTargetException;
import java.lang.reflect.Method;
import java.lang.reflect.Modifier;
import java.util.Arrays;
import java.util.Comparator;
import java.util.List;
import java.util.NoSuchElementException;
import java.util.Random;

/** Wild arguments in any state: no call throws, but drop() as promised; and the face is the document's. */
public final class WildTest {
    private static final int[] EDGES = {Integer.MIN_VALUE, Integer.MIN_VALUE + 1, -100000, -3, -2, -1, 0, 1, 2, 3, 4, 5, 6, 7, 9, 10, 11,
        12, 19, 20, 21, 23, 24, 25, 32, 33, 59, 60, 61, 99, 100, 119, 120, 121, 160, 161, 4095, 4096, 9999, 10000,
        Integer.MAX_VALUE - 1, Integer.MAX_VALUE};
    private static final List<String> FACE = List.of("about", "alike", "back", "blot", "body", "came", "count", "dots", "drop",
        "dry", "end", "fault", "feed", "flow", "free", "grain", "heap", "image", "join", "least", "lies", "line", "luck", "met",
        "middle", "next", "odds", "pace", "parts", "print", "printed", "read", "rush", "saved", "speed", "stain", "start",
        "steps", "text", "tick", "tried", "turned", "water", "weigh");

    private static Object drawn(Random random, Class<?> type) {
        int edge = EDGES[random.nextInt(EDGES.length)];
        if (random.nextInt(3) > 0) {
            edge = random.nextInt(4);
        }
        return type == long.class ? (Object) (edge * (random.nextBoolean() ? 1L : Integer.MAX_VALUE)) : (Object) edge;
    }

    private static void run(long seed, Method[] face) throws IllegalAccessException {
        Random random = new Random(seed);
        RingDrop r = new RingDrop();
        if (seed % 3 > 0) {
            Check.law(r, "y:i<2?w/4+1;y:t*t*t*9999");
            Check.want(r, "e>50&n>3");
            Check.drop(r, "g40,l3,e20,m60");
            Check.drop(r, "x8,k4,g999,l999,w999,c99");
            Check.drop(r, "k24,g999,l99,w999,s9,e40,j9");
            r.stain();
        }
        for (int n = 0; n < 450; n++) {
            Method m = face[random.nextInt(face.length)];
            Object[] args = new Object[m.getParameterCount()];
            for (int i = 0; i < args.length; i++) {
                args[i] = drawn(random, m.getParameterTypes()[i]);
            }
            try {
                m.invoke(r, args);
            } catch (InvocationTargetException e) {
                boolean promised = m.getName().equals("drop") && e.getCause().getClass() == NoSuchElementException.class;
                Check.yes(m.getName() + Arrays.toString(args) + " of run " + seed + " throws " + e.getCause(), promised);
            }
        }
    }

    public static void main(String[] args) throws IllegalAccessException {
        Method[] face = Arrays.stream(RingDrop.class.getDeclaredMethods())
            .filter(m -> Modifier.isPublic(m.getModifiers()) && !m.isSynthetic())
            .sorted(Comparator.comparing(Method::getName)).toArray(Method[]::new);
        Check.yes("the face", Arrays.stream(face).map(Method::getName).toList().equals(FACE));
        Check.same("fields of the face", RingDrop.class.getFields().length, 2);
        for (long seed = 0; seed < 60; seed++) {
            run(seed, face);
        }
        Check.finish("WildTest");
    }
}
