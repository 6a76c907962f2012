import java.math.BigInteger;

/** Each promise at its edges: the least and the greatest number that a call takes, those beside them, empty and full. */
public final class PromisesEdgeTest {
    private static final Class<IllegalArgumentException> ARGUMENT = IllegalArgumentException.class;
    private static final Class<IllegalStateException> STATE = IllegalStateException.class;
    private static final Class<IndexOutOfBoundsException> INDEX = IndexOutOfBoundsException.class;

    public static void main(String[] args) {
        partsTakeTheirNumbers();
        scriptsTakeTheirNumbers();
        questionsTakeTheirNumbers();
        setsOfChannels();
        noneYet();
        fullAndBeyond();
        namedFirstIsThrown();
        emptyAndStuck();
        cutOfWhat();
        clocksStop();
        ticksAddUp();
        textIsFull();
        factsOfAll();
        results();
        countsOfTheBus();
        traces();
        scans();
        wouldAtItsEdges();
        fits();
        soundAtItsEdges();
        digestWrapsAround();
        Due.end("PromisesEdgeTest");
    }

    /** Three targets, two masters, one result and one transfer each, no time gone since. */
    private static Openline scene() {
        Openline x = new Openline();
        x.target(20, 1, 1, 0);
        x.target(21, 2, 0, 50);
        x.target(0, 3, 0, 0);
        for (int register = 0; register <= 15; register++) {
            x.put(0, register, 255 - register);
        }
        for (int master = 0; master < 2; master++) {
            x.master(10, 5);
            x.read(master, 20, 1, false);
        }
        x.step();
        x.read(0, 20, 1, false);
        x.read(1, 20, 1, true);
        return x;
    }

    /**
     * The number at that place may be low to high, and nothing else; the other ones are right.
     * Each call goes to a new scene.
     */
    private static void within(String name, int place, int low, int high, Class<? extends RuntimeException> kind, int... right) {
        for (int number : new int[] {low, low + 1, high - 1, high}) {
            String got = Calls.answer(scene(), name, with(right, place, number));
            Due.same(name + " takes " + number + " at " + place + ": " + got, got.endsWith("Exception"), false);
        }
        for (int number : new int[] {low - 1, low - 2, high + 1, high + 2, Integer.MIN_VALUE, Integer.MAX_VALUE}) {
            isRefused(name, kind, with(right, place, number));
        }
    }

    private static int[] with(int[] right, int place, int number) {
        int[] numbers = right.clone();
        numbers[place] = number;
        return numbers;
    }

    private static void isRefused(String name, Class<? extends RuntimeException> kind, int... numbers) {
        isRefused(scene(), name, kind, numbers);
    }

    private static void isRefused(Openline x, String name, Class<? extends RuntimeException> kind, int... numbers) {
        Due.refused(name + java.util.Arrays.toString(numbers), x, kind, () -> callNow(x, name, numbers));
    }

    private static long callNow(Openline x, String name, int... numbers) {
        Object got = Calls.answerOrThrown(x, Calls.named(x, name), numbers);
        if (got instanceof RuntimeException) {
            throw (RuntimeException) got;
        }
        return 0;
    }

    // ---- too small, too large

    private static void partsTakeTheirNumbers() {
        within("target", 0, 8, 119, ARGUMENT, 20, 1, 2, 3);
        noneOrEightOn();
        within("target", 1, 0, 255, ARGUMENT, 20, 1, 2, 3);
        within("target", 2, 0, 20, ARGUMENT, 20, 1, 2, 3);
        within("target", 3, 0, 200, ARGUMENT, 20, 1, 2, 3);
        within("wire", 0, 0, 2, INDEX, 1, 1);
        within("wire", 1, 0, 3, ARGUMENT, 1, 1);
        within("power", 0, 0, 2, INDEX, 1, 0);
        within("power", 0, 0, 2, INDEX, 1, 1);
        within("put", 0, 0, 2, INDEX, 1, 1, 1);
        within("put", 1, 0, 15, INDEX, 1, 1, 1);
        within("put", 2, 0, 255, ARGUMENT, 1, 1, 1);
        within("resistor", 0, 1, 99, ARGUMENT, 10);
        within("master", 0, 2, 200, ARGUMENT, 10, 10);
        within("master", 1, 0, 500, ARGUMENT, 10, 10);
    }

    /** "if address is neither 0 nor 8 to 119": all from -1 to 128, one by one. */
    private static void noneOrEightOn() {
        for (int address = -1; address <= 128; address++) {
            boolean isRight = address == 0 || address >= 8 && address <= 119;
            String got = Calls.answer(scene(), "target", address, 0, 0, 0);
            Due.same("2 address " + address, got, isRight ? "3" : "IllegalArgumentException");
        }
    }

    private static void scriptsTakeTheirNumbers() {
        within("write", 0, 0, 1, INDEX, 0, 20, 1, 1, 1);
        within("write", 1, 0, 127, ARGUMENT, 0, 20, 1, 1, 1);
        within("write", 2, 0, 255, ARGUMENT, 0, 20, 1, 1, 1);
        within("write", 3, 0, 255, ARGUMENT, 0, 20, 1, 1, 0);
        within("read", 0, 0, 1, INDEX, 0, 20, 1, 1);
        within("read", 1, 0, 127, ARGUMENT, 0, 20, 1, 1);
        within("read", 2, 0, 255, ARGUMENT, 0, 20, 1, 0);
        within("cut", 0, 0, 1, INDEX, 0, 1);
        within("cut", 1, 1, 8, ARGUMENT, 0, 1);
        within("clocks", 0, 1, 9, ARGUMENT, 1);
        within("pass", 0, 1, 10000, ARGUMENT, 1);
        within("sample", 0, 0, 1, ARGUMENT, 1, 1);
        within("sample", 1, 0, 1, ARGUMENT, 1, 1);
        within("sample", 1, 0, 1, ARGUMENT, 0, 1);
    }

    private static void questionsTakeTheirNumbers() {
        within("ofTarget", 0, 0, 2, INDEX, 0, 0);
        within("ofTarget", 1, 0, 9, ARGUMENT, 0, 0);
        within("register", 0, 0, 2, INDEX, 0, 0);
        within("register", 1, 0, 15, INDEX, 0, 0);
        within("ofMaster", 0, 0, 1, INDEX, 0, 0);
        within("ofMaster", 1, 0, 6, ARGUMENT, 0, 0);
        within("result", 0, 0, 1, INDEX, 0, 0);
        within("bus", 0, 0, 9, ARGUMENT, 0);
        for (int place = 0; place < 3; place++) {
            within("check", place, 0, 255, ARGUMENT, 1, 2, 3);
        }
        within("scan", 0, 0, 127, ARGUMENT, 0, 127);
        within("scan", 1, 0, 127, ARGUMENT, 0, 127);
        within("scan", 1, 100, 127, ARGUMENT, 100, 127);
        within("would", 0, 0, 1, ARGUMENT, 0);
        within("fit", 0, 2, 200, ARGUMENT, 10);
    }

    /** "if channels is not a set of 1 to 3 (an even number of 0 to 14)" */
    private static void setsOfChannels() {
        for (int channels = -3; channels <= 18; channels++) {
            Openline x = scene();
            boolean isRight = channels >= 0 && channels <= 14 && channels % 2 == 0;
            Due.same("4 set " + channels, Calls.answer(x, "open", channels), isRight ? "2" : "IllegalArgumentException");
            Due.same("4 set " + channels + " stands", x.bus(8), isRight ? channels : 0);
        }
        isRefused("open", ARGUMENT, Integer.MIN_VALUE);
        isRefused("open", ARGUMENT, Integer.MAX_VALUE);
        isRefused("open", ARGUMENT, Integer.MAX_VALUE - 1);
        Openline y = new Openline();
        Due.same("4 without targets", y.open(14), 0);
        y.open(2);
        isRefused(y, "open", ARGUMENT, 3);
        Due.same("4 a refused one opens nothing", y.bus(8), 2);
        Due.same("4 all others are not open", y.open(8) + y.bus(8), 8);
    }

    // ---- empty

    /** On a new object nothing is there yet. */
    private static void noneYet() {
        Openline x = new Openline();
        for (int number = -1; number <= 1; number++) {
            isRefused(x, "wire", INDEX, number, 0);
            isRefused(x, "power", INDEX, number, 1);
            isRefused(x, "put", INDEX, number, 0, 0);
            isRefused(x, "ofTarget", INDEX, number, 0);
            isRefused(x, "register", INDEX, number, 0);
            isRefused(x, "write", INDEX, number, 20, 0, 0, 0);
            isRefused(x, "read", INDEX, number, 20, 0, 0);
            isRefused(x, "cut", INDEX, number, 1);
            isRefused(x, "ofMaster", INDEX, number, 0);
            isRefused(x, "result", INDEX, number, 0);
        }
        isRefused(x, "step", STATE);
        Due.same("12 none", x.run(), 0);
        Due.same("14 none", x.clocks(1), 0);
        Due.same("15 none", x.handOut(), 0);
        Due.same("24 none", x.text(), "");
        Due.same("23 none", x.trace(), "");
        Due.same("26 none", x.scan(0, 127), 0);
        Due.same("27 none", x.would(0), 0);
        Due.same("27 none", x.would(1), 0);
        Due.same("29 sound", x.isSound(), true);
        for (int what = 0; what <= 9; what++) {
            int want = what == 2 ? 10 : what == 3 ? 1 : 0;
            Due.same("22 of a new one, " + what, x.bus(what), want);
        }
    }

    // ---- full

    private static void fullAndBeyond() {
        Openline x = new Openline();
        for (int i = 0; i < 6; i++) {
            x.target(0, 0, 0, 0);
        }
        for (int i = 0; i < 3; i++) {
            x.master(2, 0);
        }
        for (int i = 0; i < 8; i++) {
            x.write(2, 127, 255, 255, true);
        }
        for (int i = 0; i < 2; i++) {
            isRefused(x, "target", STATE, 8, 0, 0, 0);
            isRefused(x, "master", STATE, 2, 0);
            isRefused(x, "write", STATE, 2, 0, 0, 0, 0);
            isRefused(x, "read", STATE, 2, 0, 0, 0);
        }
        Due.same("9 the other scripts are not full", x.write(1, 0, 0, 0, false), 1);
        isRefused(x, "ofTarget", INDEX, 6, 0);
        isRefused(x, "ofMaster", INDEX, 3, 0);
        Due.same("18 the last target", x.ofTarget(5, 5), 1);
        Due.same("20 the last master", x.ofMaster(2, 2), 8);
        Due.same("29 sound", x.isSound(), true);
        for (int i = 0; i < 8; i++) {
            x.write(0, 10 + i, 0, 0, false);
            if (i > 0) {
                x.read(1, 20 + i, 0, false);
            }
        }
        isRefused(x, "read", STATE, 0, 0, 0, 0);
        isRefused(x, "write", STATE, 1, 0, 0, 0, 0);
        Due.same("12 three full scripts, no two alike", x.run(), 24);
        Due.same("22 all of them", x.bus(1), 24);
        Due.same("22 all were refused", x.bus(6), 24);
        Due.same("12 none is left", x.run(), 0);
    }

    // ---- "If several exceptions apply, the one that is named first is thrown."

    private static void namedFirstIsThrown() {
        Openline x = new Openline();
        for (int i = 0; i < 6; i++) {
            x.target(20, 0, 0, 0);
        }
        x.power(5, false);
        for (int i = 0; i < 3; i++) {
            x.master(2, 0);
        }
        for (int i = 0; i < 8; i++) {
            x.write(0, 20, 0, 0, true);
        }
        x.read(1, 20, 0, false);
        x.read(1, 20, 0, false);
        x.cut(1, 1);
        Due.same("13 stuck from here on", x.bus(4), 1);
        for (int place = 0; place < 4; place++) {
            isRefused(x, "target", ARGUMENT, with(new int[] {20, 0, 0, 0}, place, -1));
        }
        isRefused(x, "wire", INDEX, 6, -1);
        isRefused(x, "put", INDEX, 6, 0, 256);
        isRefused(x, "put", INDEX, 5, 16, 256);
        isRefused(x, "put", INDEX, 5, -1, 0);
        isRefused(x, "put", ARGUMENT, 5, 15, 256);
        isRefused(x, "put", STATE, 5, 15, 255);
        isRefused(x, "master", ARGUMENT, 1, 0);
        isRefused(x, "master", ARGUMENT, 2, 501);
        for (int place = 1; place < 4; place++) {
            isRefused(x, "write", ARGUMENT, with(new int[] {0, 20, 0, 0, 0}, place, 256));
            isRefused(x, "write", INDEX, with(new int[] {3, 20, 0, 0, 0}, place, 256));
        }
        for (int place = 1; place < 3; place++) {
            isRefused(x, "read", ARGUMENT, with(new int[] {0, 20, 0, 0}, place, 256));
            isRefused(x, "read", INDEX, with(new int[] {-1, 20, 0, 0}, place, 256));
        }
        isRefused(x, "cut", INDEX, 3, 0);
        isRefused(x, "cut", ARGUMENT, 0, 9);
        isRefused(x, "cut", ARGUMENT, 1, 0);
        isRefused(x, "cut", ARGUMENT, 2, 9);
        isRefused(x, "ofTarget", INDEX, 6, 10);
        isRefused(x, "ofMaster", INDEX, 3, 7);
    }

    // ---- promises 11 to 15

    private static void emptyAndStuck() {
        Openline x = new Openline();
        x.target(20, 0, 0, 0);
        x.master(10, 0);
        isRefused(x, "step", STATE);
        x.read(0, 20, 0, false);
        x.read(0, 20, 0, false);
        x.cut(0, 7);
        isRefused(x, "step", STATE);
        isRefused(x, "run", STATE);
        isRefused(x, "handOut", STATE);
        isRefused(x, "cut", STATE, 0, 1);
        Due.same("14 the last bit goes", x.clocks(1), 1);
        Due.same("11 one that waits", x.step(), 1);
        isRefused(x, "step", STATE);
        Due.same("12 none that waits", x.run(), 0);
        x.read(0, 20, 0, false);
        x.cut(0, 1);
        // the document's words for run() do not let empty scripts out
        isRefused(x, "run", STATE);
        isRefused(x, "step", STATE);
        x.clocks(9);
        Due.same("12 none that waits", x.run(), 0);
    }

    /** "if that is no READ (or there is none)" */
    private static void cutOfWhat() {
        Openline x = new Openline();
        x.target(20, 0, 0, 0);
        x.put(0, 0, 255);
        x.master(10, 0);
        x.master(10, 0);
        isRefused(x, "cut", STATE, 0, 1);
        x.write(0, 20, 1, 1, false);
        x.read(0, 20, 0, false);
        x.read(1, 20, 0, false);
        isRefused(x, "cut", STATE, 0, 1);
        isRefused(x, "cut", STATE, 0, 8);
        Due.same("13 another one's read", x.cut(1, 1), 1);
        isRefused(x, "cut", STATE, 1, 1);
        x.step();
        Due.same("13 behind the write the read", x.cut(0, 7), 1);
        isRefused(x, "cut", STATE, 0, 7);
    }

    /** "it stops, or does not begin, as the bus is not STUCK" */
    private static void clocksStop() {
        for (int many = 1; many <= 9; many++) {
            Openline x = new Openline();
            x.target(20, 0, 0, 0);
            x.put(0, 0, 0b10001111);
            x.master(10, 0);
            x.read(0, 20, 0, false);
            x.cut(0, 1);
            Due.same("14 at most " + many, x.clocks(many), Math.min(many, 3));
            Due.same("14 ever", x.bus(7), Math.min(many, 3));
            Due.same("14 the rest", x.clocks(9), 3 - Math.min(many, 3));
            Due.same("14 it does not begin", x.clocks(9), 0);
            Due.same("14 four bits are held", x.ofTarget(0, 8), 4);
            Due.same("14 ever", x.bus(7), 3);
        }
    }

    // ---- promise 16

    private static void ticksAddUp() {
        Openline x = new Openline();
        x.master(200, 500);
        for (int many = 1; many <= 510; many++) {
            Due.same("16 as many as 512 calls can let go", x.pass(10000), many * 10000);
        }
        Due.same("16 the last tick", x.bus(0), 5100000);
        Openline y = new Openline();
        y.master(200, 500);
        y.write(0, 20, 0, 0, false);
        y.pass(10000);
        y.pass(1);
        y.step();
        Due.same("16 a late beginning", y.bus(0), 10001 + 11 * 200);
        Due.same("16 ready behind it", y.ofMaster(0, 5), 10001 + 11 * 200 + 500);
    }

    // ---- promise 17

    /** "if TEXT has 100 signs or more": 99 are taken on, 100, 101 and 102 are not. */
    private static void textIsFull() {
        for (int ahead = 97; ahead <= 100; ahead++) {
            Openline x = new Openline();
            for (int signs = 1; signs <= ahead; signs++) {
                Due.same("17 signs", x.sample(1, 1 - signs % 2), signs);
            }
            if (ahead % 2 == 1 && ahead < 100) {
                Due.same("17 a byte behind " + ahead, byteOnWires(x), ahead + 3);
            }
            boolean isFull = x.text().length() >= 100;
            if (isFull) {
                String full = x.text();
                isRefused(x, "sample", STATE, 1, 0);
                isRefused(x, "sample", STATE, 1, 1);
                isRefused(x, "sample", STATE, 0, 0);
                isRefused(x, "sample", ARGUMENT, 2, 0);
                isRefused(x, "sample", ARGUMENT, 0, -1);
                Due.same("24 the text stands", x.text(), full);
            }
            Due.same("17 full behind " + ahead, isFull, ahead != 98);
        }
    }

    private static int byteOnWires(Openline x) {
        int signs = 0;
        for (int bit = 0; bit < 9; bit++) {
            x.sample(0, 1);
            signs = x.sample(1, 1);
        }
        return signs;
    }

    // ---- promises 18 to 20

    /** Every fact with a number of its own, so that none can stand for another one, and each of those that are 0 or 1 as both. */
    private static void factsOfAll() {
        Openline x = new Openline();
        x.target(20, 33, 4, 105);
        x.target(20, 44, 5, 106);
        x.wire(1, 2);
        x.master(12, 50);
        x.master(13, 60);
        facts(x, 0, "20 33 4 105 0 1 1 0 0 0");
        facts(x, 1, "20 44 5 106 2 1 0 0 0 0");
        x.open(4);
        facts(x, 0, "20 33 4 105 0 1 1 0 0 1");
        facts(x, 1, "20 44 5 106 2 1 1 0 0 1");
        x.power(0, false);
        facts(x, 0, "20 33 4 105 0 0 0 0 0 0");
        facts(x, 1, "20 44 5 106 2 1 1 0 0 0");
        Due.same("19 a register without power", x.register(0, 15), 0);
        x.write(0, 20, 3, 7, false);
        x.write(1, 20, 3, 9, false);
        x.write(1, 20, 3, 9, false);
        factsOfMaster(x, 0, "12 50 1 0 0 0 1");
        x.step();
        // bits of 13 up to the byte in which the other one loses, then of 12
        factsOfMaster(x, 0, "12 50 0 1 0 " + (13 * 28 + 10 + 12 + 50) + " 1");
        factsOfMaster(x, 1, "13 60 2 0 1 " + (13 * 28 + 10 + 12 + 60) + " 1");
        facts(x, 1, "20 44 5 106 2 1 1 1 0 0");
        x.pass(106);
        x.read(0, 20, 3, false);
        x.cut(0, 2);
        facts(x, 1, "20 44 5 106 2 1 1 0 6 0");
        x.resistor(21);
        factsOfMaster(x, 1, "13 60 2 0 1 446 0");
    }

    private static void facts(Openline x, int target, String want) {
        String[] all = want.split(" ");
        for (int what = 0; what < all.length; what++) {
            Due.same("18 target " + target + ", " + what, x.ofTarget(target, what), Integer.parseInt(all[what]));
        }
    }

    private static void factsOfMaster(Openline x, int master, String want) {
        String[] all = want.split(" ");
        for (int what = 0; what < all.length; what++) {
            Due.same("20 master " + master + ", " + what, x.ofMaster(master, what), Integer.parseInt(all[what]));
        }
    }

    // ---- promise 21

    private static void results() {
        Openline x = new Openline();
        x.target(20, 0, 0, 0);
        x.master(10, 0);
        isRefused(x, "result", INDEX, 0, 0);
        isRefused(x, "result", INDEX, 0, -1);
        int calls = 4;
        int told = 0;
        // as many as 512 calls leave room for: eight writes or reads and a run
        while (calls <= 512 - 9 - 10) {
            for (int i = 0; i < 8; i++) {
                x.write(0, 20, 0, told % 256, false);
                told++;
            }
            x.run();
            calls += 9;
        }
        Due.same("20 how many", x.ofMaster(0, 3), told);
        Due.same("21 the first", x.result(0, 0), 256);
        Due.same("21 the last", x.result(0, told - 1), 256);
        isRefused(x, "result", INDEX, 0, told);
        Due.same("22 none refused", x.bus(6), 0);
        Openline y = new Openline();
        y.master(10, 0);
        y.master(10, 0);
        y.read(0, 20, 0, false);
        isRefused(y, "result", INDEX, 0, 0);
        y.step();
        Due.same("21 none counts as a result", y.result(0, 0), -1);
        isRefused(y, "result", INDEX, 0, 1);
        isRefused(y, "result", INDEX, 1, 0);
        isRefused(y, "result", INDEX, 2, 0);
    }

    // ---- promise 22

    /** OCCUPATIONS, BYTES, REFUSED ones and CLOCKS ever, behind each thing that counts or does not. */
    private static void countsOfTheBus() {
        Openline x = new Openline();
        x.target(20, 0, 0, 0);
        x.target(0, 0, 0, 0);
        x.master(10, 0);
        x.master(10, 0);
        x.write(0, 20, 1, 1, false);
        x.step();
        counts(x, "a write", 1, 3, 0, 0);
        x.write(0, 20, 1, 1, true);
        x.step();
        counts(x, "a checked write", 2, 7, 0, 0);
        x.read(0, 20, 1, false);
        x.step();
        counts(x, "a read", 3, 11, 0, 0);
        x.read(0, 20, 1, true);
        x.step();
        counts(x, "a checked read", 4, 16, 0, 0);
        x.write(0, 21, 1, 1, true);
        x.write(1, 21, 1, 1, true);
        x.step();
        counts(x, "an address that is refused to two", 5, 17, 2, 0);
        x.read(0, 20, 16, true);
        x.step();
        counts(x, "a register that is refused", 6, 19, 3, 0);
        x.write(0, 20, 1, 1, false);
        x.write(1, 20, 1, 2, false);
        x.step();
        counts(x, "a loss", 7, 22, 3, 0);
        x.step();
        counts(x, "who lost, again", 8, 25, 3, 0);
        x.read(0, 21, 1, false);
        x.cut(0, 8);
        counts(x, "a cut refused by its address", 8, 26, 4, 0);
        x.read(0, 20, 16, false);
        x.cut(0, 8);
        counts(x, "a cut refused by its register", 8, 28, 5, 0);
        x.read(0, 20, 1, false);
        x.cut(0, 8);
        counts(x, "a cut behind all bits", 8, 31, 6, 0);
        x.read(0, 20, 1, true);
        x.cut(0, 1);
        counts(x, "a cut behind the first bit", 8, 34, 7, 0);
        x.clocks(2);
        counts(x, "two clocks", 8, 34, 7, 2);
        x.clocks(9);
        x.handOut();
        x.would(0);
        // the byte is 2: behind its first bit there are five bits of 0, then its 1
        counts(x, "clocks till it is free, and ids", 8, 34, 7, 5);
    }

    private static void counts(Openline x, String behind, int occupations, int bytes, int refused, int clocks) {
        Due.same("22 occupations behind " + behind, x.bus(1), occupations);
        Due.same("22 bytes behind " + behind, x.bus(5), bytes);
        Due.same("22 refused behind " + behind, x.bus(6), refused);
        Due.same("22 clocks behind " + behind, x.bus(7), clocks);
    }

    // ---- promise 23

    /** "the last OCCUPATION (no CUT) .. \"\" without one" */
    private static void traces() {
        Openline x = new Openline();
        x.target(20, 0, 0, 0);
        x.put(0, 0, 255);
        x.master(10, 0);
        for (int i = 0; i < 5; i++) {
            x.read(0, 20, i == 2 ? 16 : 0, i == 3);
        }
        x.cut(0, 8);
        Due.same("23 a cut is none", x.trace(), "");
        x.would(0);
        x.digest();
        Due.same("23 nor what would be", x.trace(), "");
        x.step();
        Due.same("23 - behind the last byte that is read", x.trace(), "S28+00+S29+ff-P");
        x.cut(0, 8);
        Due.same("23 a refused cut is none", x.trace(), "S28+00+S29+ff-P");
        x.would(1);
        Due.same("23 what would be is none", x.trace(), "S28+00+S29+ff-P");
        x.step();
        Due.same("23 + behind the byte, - behind the check", x.trace(),
            "S28+00+S29+ff+" + String.format("%02x", checkOfRead()) + "-P");
        x.run();
        Due.same("23 the last one of a run", x.trace(), "S28+00+S29+ff-P");
        x.run();
        x.handOut();
        x.pass(1);
        x.clocks(1);
        x.sample(1, 0);
        Due.same("23 nothing else is one", x.trace(), "S28+00+S29+ff-P");
    }

    /** The check of 28, 00, 29 and ff by the polynomial x^8 + x^2 + x + 1. */
    private static int checkOfRead() {
        int rest = 0;
        int row = 0x280029ff;
        for (int bit = 31; bit >= -8; bit--) {
            rest = 2 * rest + (bit >= 0 ? row >> bit & 1 : 0);
            rest = rest > 255 ? rest ^ 0x107 : rest;
        }
        return rest;
    }

    // ---- promise 26

    private static void scans() {
        Openline x = new Openline();
        x.target(8, 0, 0, 200);
        x.target(119, 0, 0, 0);
        x.target(119, 0, 0, 0);
        x.target(0, 0, 0, 0);
        x.master(10, 0);
        Due.same("26 all", x.scan(0, 127), 2);
        Due.same("26 the first alone", x.scan(0, 0), 0);
        Due.same("26 the last alone", x.scan(127, 127), 0);
        Due.same("26 up to below 8", x.scan(0, 7), 0);
        Due.same("26 up to 8", x.scan(0, 8), 1);
        Due.same("26 from 119 on", x.scan(119, 127), 1);
        Due.same("26 from behind it on", x.scan(120, 127), 0);
        Due.same("26 8 alone", x.scan(8, 8), 1);
        isRefused(x, "scan", ARGUMENT, 8, 7);
        isRefused(x, "scan", ARGUMENT, 127, 126);
        isRefused(x, "scan", ARGUMENT, 0, -1);
        isRefused(x, "scan", ARGUMENT, -1, -1);
        isRefused(x, "scan", ARGUMENT, 128, 128);
        x.write(0, 8, 0, 0, false);
        x.step();
        Due.same("26 busy", x.scan(0, 127), 1);
        x.pass(199);
        Due.same("26 busy a tick longer", x.scan(8, 8), 0);
        x.pass(1);
        Due.same("26 now", x.scan(8, 8), 1);
        x.read(0, 8, 0, false);
        x.cut(0, 1);
        Due.same("26 stuck or not", x.scan(0, 127), 2);
    }

    // ---- promise 27

    private static void wouldAtItsEdges() {
        Openline x = new Openline();
        Due.same("27 without masters", x.would(0) * 10 + x.would(1), 0);
        x.target(20, 0, 3, 40);
        x.master(10, 39);
        Due.same("27 all scripts empty", x.would(0) * 10 + x.would(1), 0);
        x.write(0, 20, 0, 0, false);
        x.write(0, 20, 0, 0, false);
        x.step();
        Due.same("27 busy a tick longer than the wait", x.would(1), 110);
        x.pass(40);
        Due.same("27 busy no more", x.would(1), 296);
        x.read(0, 20, 0, false);
        x.step();
        x.pass(200);
        x.cut(0, 1);
        Due.same("27 stuck and empty: none", x.would(0), -1);
        Due.same("27 stuck and empty: none", x.would(1), -1);
        x.write(0, 20, 0, 0, false);
        Due.same("27 stuck: none", x.would(0), -1);
        Due.same("27 stuck: none", x.would(1), -1);
        isRefused(x, "would", ARGUMENT, 2);
        x.clocks(7);
        Due.same("27 free", x.would(0), 1);
        Due.same("27 free", x.would(1), 296);
        int tick = x.bus(0);
        Due.same("27 no wait is told", x.ofMaster(0, 5) <= tick, true);
        Due.same("27 nothing begins by it", x.ofMaster(0, 2), 1);
    }

    // ---- promise 28

    /** "the greatest RESISTOR with which that PERIOD would fit; NONE without one" */
    private static void fits() {
        for (int many = 0; many <= 6; many++) {
            Openline x = new Openline();
            for (int i = 0; i < many; i++) {
                x.target(0, 0, 0, 0);
            }
            for (int period = 2; period <= 200; period++) {
                int rises = period / 2 - 1;
                int want = Math.min(99, 100 * rises / (10 + 15 * many));
                Due.same("28 load " + (10 + 15 * many) + ", period " + period, x.fit(period), want < 1 ? -1 : want);
            }
            Due.same("28 the resistor stands", x.bus(3), (10 + 15 * many + 9) / 10);
        }
    }

    // ---- promise 29

    /** The greatest and the least that SOUND allows: bytes 0 and 255, 8 transfers, addresses 0, 8 and 119, NONE and 256. */
    private static void soundAtItsEdges() {
        Openline x = new Openline();
        x.target(0, 0, 0, 0);
        x.target(8, 0, 0, 0);
        x.target(119, 0, 0, 0);
        x.put(0, 0, 255);
        x.put(2, 15, 255);
        x.put(2, 15, 0);
        x.master(10, 0);
        for (int i = 0; i < 8; i++) {
            x.write(0, i % 2 == 0 ? 119 : 20, 15, 255, false);
        }
        Due.same("29 a full script", x.isSound(), true);
        x.run();
        Due.same("29 the least and the greatest result", x.result(0, 0) + x.result(0, 1), 255);
        Due.same("29 results", x.isSound(), true);
        x.power(0, false);
        Due.same("29 one without power that does not hold", x.isSound(), true);
        x.read(0, 8, 0, false);
        x.cut(0, 7);
        Due.same("29 one with power that holds one bit", x.isSound(), true);
        x.power(1, false);
        Due.same("29 its power gone", x.isSound(), true);
    }

    // ---- promise 30

    /** "which wraps around as a 64-bit integer": by whole numbers without a bound, and then what 64 bits keep. */
    private static void digestWrapsAround() {
        BigInteger d = BigInteger.valueOf(6203);
        long[] ofNew = {0, 0, 10, 1, 0, 0, 0, 0, 0, 0, 0, 0, 0, 0, 1};
        for (long v : ofNew) {
            d = next(d, v);
        }
        Due.same("30 of a new one it wrapped around", d.bitLength() > 64, true);
        Due.same("30 of a new one", new Openline().digest(), d.longValue());
        Openline x = scene();
        x.sample(1, 0);
        BigInteger e = BigInteger.valueOf(6203);
        for (int what = 0; what <= 9; what++) {
            e = next(e, x.bus(what));
        }
        for (int target = 0; target < 3; target++) {
            for (int what = 0; what <= 9; what++) {
                e = next(e, x.ofTarget(target, what));
            }
            for (int register = 0; register <= 15; register++) {
                e = next(e, x.register(target, register));
            }
        }
        for (int master = 0; master < 2; master++) {
            for (int what = 0; what <= 6; what++) {
                e = next(e, x.ofMaster(master, what));
            }
            // one result, and 999 for each of the two that are not there
            e = next(next(next(e, x.result(master, 0)), 999), 999);
        }
        for (long v : new long[] {x.text().length(), x.trace().length(), x.would(0), x.would(1), 1}) {
            e = next(e, v);
        }
        Due.same("30 of a scene", x.digest(), e.longValue());
        lastThreeResults();
    }

    private static BigInteger next(BigInteger d, long v) {
        return d.multiply(BigInteger.valueOf(31)).add(BigInteger.valueOf(v));
    }

    /** Two objects that differ in one old result alone: in the digest as it is the third from back, not as it is the fourth. */
    private static void lastThreeResults() {
        for (int more = 0; more <= 3; more++) {
            Openline x = withResults(1, more);
            Openline y = withResults(2, more);
            Due.same("30 " + more + " results behind it", x.digest() == y.digest(), more == 3);
            Due.same("30 it is told apart", x.result(0, 0) + 1, y.result(0, 0));
        }
    }

    private static Openline withResults(int value, int more) {
        Openline x = new Openline();
        x.target(20, 0, 0, 0);
        x.master(10, 0);
        x.put(0, 0, value);
        for (int i = 0; i <= more; i++) {
            x.read(0, 20, 0, false);
            x.step();
            x.put(0, 0, 7);
        }
        return x;
    }
}
