import java.lang.reflect.InvocationTargetException;
import java.lang.reflect.Method;
import java.util.Arrays;
import java.util.NoSuchElementException;
import java.util.Random;

/** Runs of calls drawn by a fixed seed, each answer held against PlainPages' answer. */
public final class ModelTest {
    static final int RUNS = 600;
    static final int CALLS = 512;
    private static final long THROWN = Long.MIN_VALUE + 1;
    private static final String[] NAMES = {
        "page", "copy", "set", "line", "lay", "at", "row", "of", "count", "unlike", "across",
        "upright", "turn", "sharp", "angle", "bend", "foot", "specks", "take", "shadow", "listed",
        "box", "cut", "spans", "part", "back", "told"
    };
    // how often each call comes, in the order of NAMES
    private static final int[] OFTEN = {
        2, 2, 8, 8, 2, 4, 4, 8, 4, 3, 6,
        6, 5, 5, 3, 5, 4, 6, 6, 6, 5,
        4, 4, 6, 6, 9, 5
    };

    private final Random random;
    private final int most;

    private ModelTest(long seed) {
        random = new Random(seed);
        most = seed % 3 == 0 ? 64 : seed % 3 == 1 ? 24 : 9;
    }

    public static void main(String[] args) {
        Checks checks = new Checks("ModelTest");
        for (int seed = 0; seed < RUNS; seed++) {
            new ModelTest(seed).run(checks, seed);
        }
        checks.end();
    }

    private void run(Checks checks, int seed) {
        StraightPages real = new StraightPages();
        PlainPages plain = new PlainPages();
        for (int i = 0; i < CALLS; i++) {
            int which = i < 3 ? 0 : i == 3 ? 4 : draw();
            long[] a = arguments(which, plain);
            String what = "seed " + seed + " call " + i + ": " + NAMES[which] + Arrays.toString(a);
            long want = answer(plain, which, a);
            long got;
            try {
                got = answer(real, which, a);
            } catch (RuntimeException e) {
                checks.hold(what + " threw " + e, false);
                return;
            }
            checks.due(what, want, got);
            if (want != got || !sameState(checks, what, real, plain)) {
                return;
            }
        }
    }

    private int draw() {
        int sum = 0;
        for (int often : OFTEN) {
            sum += often;
        }
        int at = random.nextInt(sum);
        int which = 0;
        while (at >= OFTEN[which]) {
            at -= OFTEN[which];
            which++;
        }
        return which;
    }

    private boolean sameState(Checks checks, String what, StraightPages real, PlainPages plain) {
        for (int c = 0; c < 4; c++) {
            if (real.count(c) != plain.count(c)) {
                checks.due(what + ", then count(" + c + ")", plain.count(c), real.count(c));
                return false;
            }
        }
        for (int p = 0; p < plain.count(0); p++) {
            for (int c = 0; c < 2; c++) {
                if (real.of(p, c) != plain.of(p, c)) {
                    checks.due(what + ", then of(" + p + ", " + c + ")", plain.of(p, c), real.of(p, c));
                    return false;
                }
            }
            for (int y = 0; y < plain.of(p, 1); y++) {
                if (real.row(p, y) != plain.row(p, y)) {
                    checks.due(what + ", then row(" + p + ", " + y + ")", plain.row(p, y), real.row(p, y));
                    return false;
                }
            }
        }
        for (int i = 0; i < plain.count(2); i++) {
            if (real.listed(i, 0) != plain.listed(i, 0) || real.listed(i, 1) != plain.listed(i, 1)) {
                checks.hold(what + ", then listed(" + i + ") differs", false);
                return false;
            }
        }
        for (int i = 0; i < plain.count(3); i++) {
            if (real.told(i) != plain.told(i)) {
                checks.due(what + ", then told(" + i + ")", plain.told(i), real.told(i));
                return false;
            }
        }
        return true;
    }

    private int between(int least, int greatest) {
        return least + random.nextInt(greatest - least + 1);
    }

    /** Mostly least .. greatest, at times just beside it or far off. */
    private int about(int least, int greatest) {
        int die = random.nextInt(40);
        if (die == 0) {
            return least - 1;
        }
        if (die == 1) {
            return greatest + 1;
        }
        if (die == 2) {
            int[] far = {Integer.MIN_VALUE, Integer.MAX_VALUE, -1, 64, 100, Integer.MIN_VALUE + 1};
            return far[random.nextInt(far.length)];
        }
        if (die == 3) {
            return least;
        }
        if (die == 4 || greatest < least) {
            return greatest;
        }
        return between(least, greatest);
    }

    private long bits() {
        switch (random.nextInt(6)) {
            case 0: return random.nextLong();
            case 1: return random.nextLong() & random.nextLong() & random.nextLong();
            case 2: return random.nextLong() | random.nextLong() | random.nextLong();
            case 3: return 0L;
            case 4: return -1L << random.nextInt(64) >>> random.nextInt(64);
            default: return 1L << random.nextInt(64);
        }
    }

    private long[] arguments(int which, PlainPages plain) {
        int page = about(0, plain.count(0) - 1);
        int w = Math.max(1, plain.of(page, 0));
        int h = Math.max(1, plain.of(page, 1));
        int shear = random.nextBoolean() ? about(-16, 16) : between(-4, 4);
        switch (which) {
            case 0: return new long[] {about(1, most), about(1, most)};
            case 2: return new long[] {page, about(0, w - 1), about(0, h - 1), random.nextInt(3)};
            case 3: return new long[] {page, about(0, h - 1), bits()};
            case 4: return new long[] {page, about(0, h - 1), about(0, 4), about(0, 64), bits(), bits()};
            case 5: return new long[] {page, about(0, w - 1), about(0, h - 1)};
            case 6: return new long[] {page, about(0, h - 1)};
            case 7: return new long[] {page, about(0, 6)};
            case 8: return new long[] {about(0, 3)};
            case 9: return new long[] {page, about(0, plain.count(0) - 1)};
            case 10:
            case 11: return new long[] {page, shear};
            case 12: return new long[] {page, shear, random.nextBoolean() ? about(-16, 16) : between(-3, 3)};
            case 13: return new long[] {page, about(-12, 12)};
            case 16: return new long[] {page, about(0, (w - 1) / 8)};
            case 17:
            case 18: return new long[] {page, random.nextBoolean() ? between(1, 9) : about(1, 100),
                random.nextBoolean() ? between(0, 3) : about(0, 20)};
            case 19: return new long[] {page, about(1, 100)};
            case 20: return new long[] {about(0, plain.count(2) - 1), about(0, 1)};
            case 21: return new long[] {page, about(0, 3)};
            case 22: return new long[] {page, random.nextBoolean() ? between(0, 3) : about(0, 20)};
            case 23: return new long[] {page, about(0, 1), random.nextBoolean() ? between(1, 4) : about(1, 64)};
            case 24: {
                int a = about(1, w - 1);
                return new long[] {page, a, a >= 0 && a < w ? about(a, w - 1) : a, random.nextBoolean() ? between(0, 5) : about(0, 64)};
            }
            case 25: return new long[0];
            case 26: return new long[] {about(0, plain.count(3) - 1)};
            default: return new long[] {page};
        }
    }

    /** The answer as a number (a boolean counts 1 or 0, NoSuchElementException counts THROWN). */
    private static long answer(Object x, int which, long[] a) {
        Method method = methodOf(x.getClass(), NAMES[which]);
        Class<?>[] kinds = method.getParameterTypes();
        Object[] given = new Object[kinds.length];
        for (int i = 0; i < kinds.length; i++) {
            given[i] = kinds[i] == long.class ? (Object) a[i]
                : kinds[i] == int.class ? (Object) (int) a[i] : (Object) (a[i] != 0);
        }
        try {
            Object told = method.invoke(x, given);
            return told instanceof Boolean ? ((Boolean) told ? 1 : 0) : ((Number) told).longValue();
        } catch (InvocationTargetException e) {
            if (e.getCause().getClass() == NoSuchElementException.class) {
                return THROWN;
            }
            throw new IllegalStateException(e.getCause());
        } catch (IllegalAccessException e) {
            throw new IllegalStateException(e);
        }
    }

    private static Method methodOf(Class<?> kind, String name) {
        for (Method method : kind.getDeclaredMethods()) {
            if (method.getName().equals(name)) {
                return method;
            }
        }
        throw new IllegalStateException(name);
    }
}
