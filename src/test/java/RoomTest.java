import com.sun.management.ThreadMXBean;
import java.lang.management.ManagementFactory;
import java.lang.reflect.Field;
import java.lang.reflect.Modifier;
import java.util.HashSet;
import java.util.Random;
import java.util.Set;

/** That an object is small, that the dearest calls make no objects, and that no call throws, whatever it is given. */
public final class RoomTest {
    private static final int MOST_CALLS = 512;
    private static final ThreadMXBean THREADS = (ThreadMXBean) ManagementFactory.getThreadMXBean();
    private static int wrong = 0;

    private static void tell(String what) {
        wrong++;
        System.out.println(what);
    }

    private static long made() {
        return THREADS.getThreadAllocatedBytes(Thread.currentThread().getId());
    }

    /** Sixteen people, nearly each of whom could be a parent of the later ones. */
    private static BoughtKin crowd() {
        BoughtKin x = new BoughtKin();
        for (int i = 0; i < 16; i++) {
            x.person(i % 2, 300 + 13 * i, 120, i % 6);
            x.put(i, 2, 9999);
        }
        x.put(0, 0, 1);
        x.put(1, 0, 1);
        x.terms(2, 12);
        Feeding.put(x, "price 1" + "+born*3/7-lived".repeat(10) + " if " + "age<0or".repeat(10) + "own=9;ranks noble");
        x.force(x.law());
        for (int i = 0; i < 8; i++) {
            x.claim(i, 15 - i);
            x.sight(i, 15, -1);
        }
        return x;
    }

    private static int dearest(BoughtKin x, int kind) {
        switch (kind) {
            case 0: return x.cheap(15, 14, 0);
            case 1: return x.join(14, 15, 0);
            case 2: return x.lies(1);
            case 3: return x.secret(-1);
            case 4: return x.fair(77, 60);
            case 5: return x.offers(15, 15);
            case 6: return x.line(15, 5) + x.line(15, 4) + x.line(15, 3);
            case 7: return x.image(0) + x.back(0);
            default: return x.kin(0, 15, 0) + x.marry(0, 15);
        }
    }

    private static void dearestCallsMakeNothing() {
        BoughtKin x = crowd();
        for (int kind = 0; kind < 9; kind++) {
            dearest(x, kind);
            long before = made();
            long sum = 0;
            for (int i = 0; i < MOST_CALLS; i++) {
                sum += dearest(x, kind);
            }
            long bytes = made() - before;
            if (bytes > 1000) {
                tell(MOST_CALLS + " dear calls of kind " + kind + " made " + bytes + " bytes (" + sum + ")");
            }
        }
    }

    private static void textsMakeLittle() {
        BoughtKin x = new BoughtKin();
        x.person(0, 400, 60, 0);
        x.image(0);
        byte[] text = Feeding.bytes("price born+lived if age<3 or own>2;ranks 5 if noble=1;bars if mood=3 ");
        long before = made();
        for (int i = 0; i < MOST_CALLS; i++) {
            for (int k = 0; k < text.length; k += 20) {
                x.feed(0x70726963, 0x6520626f, 0x726e2b31, 0x20696620, 0x313d3120);
            }
            x.end(20);
            x.law();
            x.back(0);
        }
        long bytes = made() - before;
        if (bytes > 1_000_000) {
            tell("as many laws as calls made " + bytes + " bytes");
        }
    }

    /** Fields and elements of an object and all that it holds, each object once. */
    private static long size(Object of, Set<Object> seen) throws Exception {
        if (of == null || of instanceof String || !seen.add(of)) {
            return 0;
        }
        long sum = 0;
        if (of.getClass().isArray()) {
            int length = java.lang.reflect.Array.getLength(of);
            for (int i = 0; of instanceof Object[] && i < length; i++) {
                sum += size(((Object[]) of)[i], seen);
            }
            return sum + length;
        }
        for (Field field : of.getClass().getDeclaredFields()) {
            if (!Modifier.isStatic(field.getModifiers())) {
                sum++;
                field.setAccessible(true);
                if (!field.getType().isPrimitive()) {
                    sum += size(field.get(of), seen);
                }
            }
        }
        return sum;
    }

    private static void objectIsSmall() throws Exception {
        Set<Object> seen = java.util.Collections.newSetFromMap(new java.util.IdentityHashMap<>());
        long size = size(new BoughtKin(), seen);
        if (size > 6000 || seen.size() > 200) {
            tell("a new object has " + size + " fields and elements in " + seen.size() + " objects and arrays");
        }
        System.out.println("a new object: " + size + " fields and elements, " + seen.size() + " objects and arrays");
    }

    private static int wild(Random random) {
        switch (random.nextInt(6)) {
            case 0: return random.nextInt();
            case 1: return random.nextBoolean() ? Integer.MIN_VALUE : Integer.MAX_VALUE;
            case 2: return -1 - random.nextInt(3);
            case 3: return random.nextInt(1002);
            default: return random.nextInt(17);
        }
    }

    /** Wild numbers in every call; answers are not looked at, but nothing may be thrown. */
    private static void nothingIsThrown() {
        java.lang.reflect.Method[] methods = BoughtKin.class.getDeclaredMethods();
        java.util.Arrays.sort(methods, java.util.Comparator.comparing(java.lang.reflect.Method::getName));
        Set<String> told = new HashSet<>();
        for (int seed = 0; seed < 2000; seed++) {
            Random random = new Random(seed);
            BoughtKin x = seed % 2 == 0 ? new BoughtKin() : crowd();
            for (int i = 0; i < MOST_CALLS; i++) {
                java.lang.reflect.Method method = methods[random.nextInt(methods.length)];
                if (!Modifier.isPublic(method.getModifiers())) {
                    continue;
                }
                Object[] numbers = new Object[method.getParameterCount()];
                for (int k = 0; k < numbers.length; k++) {
                    numbers[k] = wild(random);
                }
                try {
                    method.invoke(x, numbers);
                } catch (ReflectiveOperationException thrown) {
                    if (told.add(method.getName())) {
                        tell("seed " + seed + ": " + method.getName() + " threw " + thrown.getCause());
                    }
                }
            }
        }
    }

    public static void main(String[] args) throws Exception {
        objectIsSmall();
        dearestCallsMakeNothing();
        textsMakeLittle();
        nothingIsThrown();
        System.out.println(wrong == 0 ? "there is room enough" : wrong + " faults");
        if (wrong != 0) {
            System.exit(1);
        }
    }
}
