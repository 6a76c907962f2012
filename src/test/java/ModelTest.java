import java.util.Arrays;

/** Long runs of calls, on Openline and on Model: all answers have to be the same ones. */
public final class ModelTest {
    private static final int RUNS = 1500;
    private static final int CALLS = 510;

    private long seed;
    private boolean isOfSamples;

    private ModelTest(long seed) {
        this.seed = seed;
    }

    public static void main(String[] args) {
        for (int run = 0; run < RUNS; run++) {
            ModelTest test = new ModelTest(run);
            test.isOfSamples = run % 8 == 7;
            test.compare(run, run % 2 == 0);
        }
        Due.end("ModelTest");
    }

    private int below(int bound) {
        seed = seed * 6364136223846793005L + 1442695040888963407L;
        return (int) ((seed >>> 33) % bound);
    }

    /** Mostly within the bounds, now and then at or behind an edge. */
    private int near(int low, int high) {
        switch (below(40)) {
            case 0: return low - 1;
            case 1: return high + 1;
            case 2: return low;
            case 3: return high;
            default: return low + below(high - low + 1);
        }
    }

    private int oneOf(int... numbers) {
        return numbers[below(numbers.length)];
    }

    private String oneOf(String names) {
        String[] all = names.split(" ");
        return all[below(all.length)];
    }

    /** With all asked behind each call a run is shorter, as an object is for 512 calls. */
    private void compare(int run, boolean isAllAsked) {
        Openline x = new Openline();
        Model y = new Model();
        StringBuilder told = new StringBuilder();
        int calls = isAllAsked ? CALLS / 4 : CALLS;
        boolean isSame = true;
        for (int call = 0; call < calls && isSame; call++) {
            String name = call < 12 ? oneOf("target target master wire") : weighted();
            int[] numbers = arguments(name);
            told.append(name).append(Arrays.toString(numbers)).append(' ');
            isSame = isSame(x, y, name, numbers);
            if (isAllAsked) {
                isSame &= isSame(x, y, "digest") & isSame(x, y, "trace") & isSame(x, y, "text");
            }
        }
        if (!(isSame & isSame(x, y, "digest"))) {
            Due.tell("run " + run + ": " + told);
        }
    }

    private static boolean isSame(Openline x, Model y, String name, int... numbers) {
        String got = Calls.answer(x, name, numbers);
        String want = Calls.answer(y, name, numbers);
        Due.same(name + Arrays.toString(numbers), got, want);
        return got.equals(want);
    }

    private String weighted() {
        if (isOfSamples && below(10) != 0) {
            return "sample";
        }
        switch (below(10)) {
            case 0: case 1: case 2: return oneOf("write read");
            case 3: case 4: return oneOf("step step run cut cut clocks");
            case 5: return oneOf("pass sample sample sample power put wire open");
            case 6: return oneOf("sample sample sample handOut");
            default: return Calls.NAMES[below(Calls.NAMES.length)];
        }
    }

    private int[] arguments(String name) {
        switch (name) {
            case "target": return new int[] {oneOf(0, 0, 8, 9, 20, 20, 21, near(8, 119)),
                oneOf(1, 2, 3, near(0, 255)), near(0, 20), near(0, 200)};
            case "wire": return new int[] {near(0, 5), oneOf(0, 0, 0, near(0, 3))};
            case "open": return new int[] {oneOf(2 * below(8), near(0, 14))};
            case "power": return new int[] {near(0, 5), oneOf(0, 1, 1)};
            case "put": return new int[] {near(0, 5), near(0, 15), near(0, 255)};
            case "resistor": return new int[] {oneOf(near(1, 20), near(1, 99))};
            case "master": return new int[] {oneOf(near(2, 30), near(2, 200)),
                oneOf(0, 0, near(0, 20), near(0, 500))};
            case "write": return new int[] {near(0, 2), address(), cell(), oneOf(1, 2, near(0, 255)), below(2)};
            case "read": return new int[] {near(0, 2), address(), cell(), below(2)};
            case "cut": return new int[] {near(0, 2), near(1, 8)};
            case "clocks": return new int[] {near(1, 9)};
            case "pass": return new int[] {oneOf(near(1, 50), near(1, 500), near(1, 10000))};
            case "sample": return new int[] {oneOf(0, 1, 1, near(0, 1)), oneOf(0, 1, near(0, 1))};
            case "ofTarget": return new int[] {near(0, 5), near(0, 9)};
            case "register": return new int[] {near(0, 5), near(0, 15)};
            case "ofMaster": return new int[] {near(0, 2), near(0, 6)};
            case "result": return new int[] {near(0, 2), near(0, 20)};
            case "bus": return new int[] {near(0, 9)};
            case "check": return new int[] {near(0, 255), near(0, 255), near(0, 255)};
            case "scan": return new int[] {near(0, 60), near(8, 127)};
            case "would": return new int[] {near(0, 1)};
            case "fit": return new int[] {near(2, 200)};
            default: return new int[0];
        }
    }

    private int address() {
        return oneOf(8, 9, 10, 20, 20, 20, 21, near(0, 127));
    }

    private int cell() {
        return oneOf(1, 1, 2, near(0, 15), near(0, 15), near(0, 255));
    }
}
