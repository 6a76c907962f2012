import java.util.ArrayList;
import java.util.List;

/**
 * "A method that throws an exception changes nothing": a run of calls is played again and again, each time with one
 * call more that is refused at some place, and all answers behind it have to be those without it. So also what no
 * question shows at once (scripts, levels, bits that are held, the end of being busy) is known to stand.
 */
public final class RefusedTest {
    private static final String[] RUN = {
        "target 20 1 3 40", "target 20 2 5 0", "wire 1 2", "target 0 7 0 200", "open 4", "master 12 10", "resistor 21",
        "put 0 2 240", "put 1 2 60", "write 0 20 2 85 1", "target 0 3 20 0", "master 40 0", "write 1 20 2 85 0",
        "sample 1 0", "sample 0 1", "sample 1 1", "step", "sample 0 0", "sample 1 0", "read 0 20 2 1", "read 1 20 2 0",
        "step", "step", "pass 30", "handOut", "target 119 9 1 1", "power 3 0", "step", "run", "target 21 0 0 0",
        "put 0 5 144", "put 1 5 200", "pass 100", "read 0 20 5 0", "read 0 8 16 0", "read 0 20 5 1", "master 7 300",
        "cut 0 2", "sample 0 1", "sample 1 1", "clocks 1", "wire 0 1", "clocks 9", "wire 0 0", "cut 0 5",
        "write 2 9 1 1 1", "read 2 20 5 0", "read 2 20 5 0", "read 2 20 5 0", "read 2 20 5 0", "read 2 20 5 0",
        "read 2 20 5 0", "read 2 20 5 0", "step", "cut 0 1", "sample 0 0", "sample 1 0", "sample 0 1", "clocks 9",
        "power 0 0", "power 3 1", "cut 2 6", "step", "run", "power 0 1", "write 2 20 2 7 0", "write 2 20 2 9 0", "step",
        "pass 39", "would 1", "step", "result 2 0", "check 1 2 3", "sample 1 1", "sample 0 1", "sample 1 1",
        "clocks 9", "step", "run", "register 0 2", "sample 0 0", "sample 1 0", "sample 0 0", "sample 1 0", "sample 0 1",
        "sample 1 1", "sample 0 1", "sample 1 1", "sample 1 0", "pass 300", "handOut"};

    private static final String[] MAYBE_REFUSED = {
        "target 7 0 0 0", "target 20 256 0 0", "target 20 0 21 0", "target 20 0 0 201", "target 20 0 0 0",
        "wire 6 1", "wire 0 4", "wire -1 -1", "open 1", "open 16", "open -2", "power 6 0", "power -1 0",
        "put 6 0 1", "put 0 16 1", "put 0 -1 1", "put 0 5 256", "put 0 5 -1", "put 0 5 77", "put 3 5 77",
        "resistor 0", "resistor 100", "master 1 0", "master 201 0", "master 2 501", "master 9 9",
        "write 3 20 2 1 0", "write 0 128 2 1 0", "write 0 20 256 1 0", "write 0 20 2 256 0", "write 2 20 2 1 0",
        "read 3 20 2 0", "read 0 128 2 0", "read 0 20 256 0", "read 2 20 2 0", "step", "run", "handOut",
        "cut 3 1", "cut 0 0", "cut 0 9", "cut 0 4", "cut 1 4", "cut 2 8", "clocks 0", "clocks 10", "pass 0", "pass 10001",
        "sample 2 0", "sample 0 2", "sample -1 1", "sample 1 -1", "ofTarget 0 10", "ofTarget 6 0", "register 0 16",
        "register 6 0", "ofMaster 0 7", "ofMaster 3 0", "result 0 -1", "result 0 99", "result 3 0", "bus 10", "bus -1",
        "check 256 0 0", "check 0 -1 0", "scan 5 4", "scan 0 128", "would 2", "would -1", "fit 1", "fit 201"};

    private static int refused = 0;

    public static void main(String[] args) {
        List<String> want = new ArrayList<>();
        Openline without = new Openline();
        for (String call : RUN) {
            want.add(answer(without, call));
        }
        String end = Due.state(without);
        for (String call : MAYBE_REFUSED) {
            int before = refused;
            for (int place = 0; place <= RUN.length; place++) {
                play(call, place, want, end);
            }
            Due.same(call + " was refused somewhere", refused > before, true);
        }
        fullText();
        Due.end("RefusedTest");
    }

    private static void play(String call, int place, List<String> want, String end) {
        Openline x = new Openline();
        for (int i = 0; i < place; i++) {
            answer(x, RUN[i]);
        }
        String before = Due.state(x);
        if (!answer(x, call).endsWith("Exception")) {
            return;
        }
        refused++;
        Due.same("right behind " + call + " at " + place, Due.state(x), before);
        for (int i = place; i < RUN.length; i++) {
            Due.same(call + " at " + place + ", then " + RUN[i], answer(x, RUN[i]), want.get(i));
        }
        Due.same("in the end, " + call + " at " + place, Due.state(x), end);
    }

    private static String answer(Openline x, String call) {
        String[] words = call.split(" ");
        int[] numbers = new int[words.length - 1];
        for (int i = 0; i < numbers.length; i++) {
            numbers[i] = Integer.parseInt(words[i + 1]);
        }
        return Calls.answer(x, words[0], numbers);
    }

    private static void fullText() {
        Openline x = new Openline();
        for (int signs = 1; signs <= 100; signs++) {
            Due.same("text fills", answer(x, "sample 1 " + (1 - signs % 2)), "" + signs);
        }
        String before = Due.state(x);
        for (int all = 0; all < 8; all++) {
            Due.same("text is full", answer(x, "sample " + (all & 1) + " " + (all >> 1 & 1)), "IllegalStateException");
            Due.same("text stands", Due.state(x), before);
        }
    }
}
