import java.lang.management.ManagementFactory;
import java.lang.reflect.Method;
import java.util.ArrayList;
import java.util.Comparator;
import java.util.List;

/** Calls of every kind with numbers of every size: none throws, all end, and a run leaves little behind. */
public final class WildTest {
    private static final long[] WILD = {Integer.MIN_VALUE, Integer.MAX_VALUE, -1, 64, 1L << 40, Long.MIN_VALUE,
        Long.MAX_VALUE, -9, 99, 98, 60, 24, 65};
    private static final int CALLS = 512;
    // A long or a reference each, so far fewer than 7.3 million; rows of one run are made once.
    private static final long MOST_BYTES = 4_000_000;

    private static long seed = 11;

    private static int below(int n) {
        seed = seed * 6364136223846793005L + 1442695040888963407L;
        return (int) ((seed >>> 33) % n);
    }

    private static Object argument(Class<?> type) {
        if (type == boolean.class) {
            return below(2) == 0;
        }
        long v = below(30) == 0 ? WILD[below(WILD.length)] : below(3) == 0 ? below(64) : below(8);
        return type == long.class ? (Object) v : (Object) (int) v;
    }

    private static boolean wildRuns(List<Method> face) {
        for (int run = 0; run < 300; run++) {
            HeardPlaces x = new HeardPlaces();
            for (int i = 0; i < CALLS; i++) {
                Method m = face.get(i < 60 ? below(2) == 0 ? indexOf(face, "thing") : indexOf(face, "measure")
                    : below(face.size()));
                if (m.getName().equals("field") && below(4) > 0) {
                    continue;
                }
                Object[] arguments = new Object[m.getParameterCount()];
                for (int k = 0; k < arguments.length; k++) {
                    arguments[k] = argument(m.getParameterTypes()[k]);
                }
                try {
                    m.invoke(x, arguments);
                } catch (ReflectiveOperationException e) {
                    System.out.println("run " + run + ": " + m.getName() + java.util.Arrays.toString(arguments)
                        + " threw " + e.getCause());
                    return false;
                }
            }
        }
        return true;
    }

    private static int indexOf(List<Method> face, String name) {
        for (int i = 0; i < face.size(); i++) {
            if (face.get(i).getName().equals(name)) {
                return i;
            }
        }
        return 0;
    }

    private static long bytes() {
        return ((com.sun.management.ThreadMXBean) ManagementFactory.getThreadMXBean())
            .getThreadAllocatedBytes(Thread.currentThread().getId());
    }

    /** A run of the calls that make the most, or look for the most. */
    private static long dearRun() {
        HeardPlaces x = new HeardPlaces();
        int made = 0;
        for (int i = 0; i < CALLS / 16; i++) {
            x.field(6, 6);
            for (int k = 0; k < 3; k++) {
                made += x.mover(8, 98) + 1;
            }
            x.sheet(0, 3, 64);
            x.keep(0);
            x.hold(0, 0, 3);
            x.turn(2, false);
            x.placings(0);
            x.between(0, 2);
            x.ways(0);
            x.quarrel();
            x.liars(0);
            x.take(0, 0);
            x.back(0);
        }
        return made;
    }

    public static void main(String[] arguments) {
        List<Method> face = new ArrayList<>();
        for (Method m : HeardPlaces.class.getDeclaredMethods()) {
            if (java.lang.reflect.Modifier.isPublic(m.getModifiers())) {
                face.add(m);
            }
        }
        face.sort(Comparator.comparing(Method::getName));
        boolean well = face.size() == 53 && wildRuns(face);
        dearRun();
        long before = bytes();
        dearRun();
        long made = bytes() - before;
        if (made > MOST_BYTES) {
            System.out.println("a run makes " + made + " bytes");
            well = false;
        }
        System.out.println(well ? "no call throws; a dear run makes " + made + " bytes" : "not well");
        System.exit(well ? 0 : 1);
    }
}
