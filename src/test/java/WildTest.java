import java.lang.reflect.Method;
import java.util.Arrays;

/** Any numbers, in any state, far beyond 512 calls: a call throws only what its face declares. */
public final class WildTest {
    private static final int RUNS = 60;
    private static final int CALLS = 5000;
    private static final int[] WILD = {Integer.MIN_VALUE, Integer.MIN_VALUE + 1, -1000, -2, -1, 0, 1, 2, 3, 4, 5, 6, 7,
        8, 9, 10, 14, 15, 16, 20, 100, 119, 120, 127, 128, 200, 255, 256, 500, 512, 10000, Integer.MAX_VALUE};

    private long seed;

    private WildTest(long seed) {
        this.seed = seed;
    }

    public static void main(String[] args) {
        for (int run = 0; run < RUNS; run++) {
            new WildTest(run).go(run % 3 != 0);
        }
        Due.end("WildTest");
    }

    private int below(int bound) {
        seed = seed * 6364136223846793005L + 1442695040888963407L;
        return (int) ((seed >>> 33) % bound);
    }

    private int number(boolean isTame) {
        return isTame && below(4) != 0 ? below(12) : WILD[below(WILD.length)];
    }

    private void go(boolean isTame) {
        Openline x = new Openline();
        for (int call = 0; call < CALLS; call++) {
            Method method = Calls.named(x, Calls.NAMES[below(Calls.NAMES.length)]);
            int[] numbers = {number(isTame), number(isTame), number(isTame), number(isTame), below(2)};
            Object got = Calls.answerOrThrown(x, method, numbers);
            boolean isDue = got != null
                && (!(got instanceof Throwable) || Due.isByThrow((Throwable) got)
                && Arrays.asList(method.getExceptionTypes()).contains(got.getClass()));
            Due.same(method.getName() + Arrays.toString(numbers) + " gave " + got, isDue, true);
        }
        Due.same("isSound behind it", x.isSound(), true);
    }
}
