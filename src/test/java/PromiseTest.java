/** Each promise by hand: ordinary answers, the edges that the document names, and what is refused. */
public final class PromiseTest {
    private static final Class<IllegalArgumentException> ARGUMENT = IllegalArgumentException.class;
    private static final Class<IllegalStateException> STATE = IllegalStateException.class;
    private static final Class<IndexOutOfBoundsException> INDEX = IndexOutOfBoundsException.class;

    public static void main(String[] args) {
        newObject();
        target();
        wire();
        open();
        power();
        put();
        resistor();
        master();
        write();
        read();
        step();
        run();
        cut();
        clocks();
        handOut();
        pass();
        sample();
        ofTarget();
        register();
        ofMaster();
        result();
        bus();
        trace();
        text();
        check();
        scan();
        would();
        fit();
        isSound();
        digest();
        Due.end("PromiseTest");
    }

    /** bus(what) for all of 0 to 9, in one text. */
    private static String bus(Openline x) {
        StringBuilder all = new StringBuilder();
        for (int what = 0; what <= 9; what++) {
            all.append(what == 0 ? "" : " ").append(x.bus(what));
        }
        return all.toString();
    }

    private static String ofTarget(Openline x, int target) {
        StringBuilder all = new StringBuilder();
        for (int what = 0; what <= 9; what++) {
            all.append(what == 0 ? "" : " ").append(x.ofTarget(target, what));
        }
        return all.toString();
    }

    private static String ofMaster(Openline x, int master) {
        StringBuilder all = new StringBuilder();
        for (int what = 0; what <= 6; what++) {
            all.append(what == 0 ? "" : " ").append(x.ofMaster(master, what));
        }
        return all.toString();
    }

    // ---- promise 1

    private static void newObject() {
        Openline x = new Openline();
        Due.same("1 bus of a new one", bus(x), "0 0 10 1 0 0 0 0 0 0");
        Due.same("1 trace of a new one", x.trace(), "");
        Due.same("1 text of a new one", x.text(), "");
        Due.same("1 isSound of a new one", x.isSound(), true);
        Due.refused("1 no target", x, INDEX, () -> x.ofTarget(0, 0));
        Due.refused("1 no master", x, INDEX, () -> x.ofMaster(0, 0));
        new Openline().target(8, 0, 0, 0);
        Due.same("1 objects share nothing", bus(x), "0 0 10 1 0 0 0 0 0 0");
    }

    // ---- promise 2

    private static void target() {
        Openline x = new Openline();
        Due.same("2 first", x.target(8, 0, 0, 0), 0);
        Due.same("2 second", x.target(119, 255, 20, 200), 1);
        Due.same("2 third", x.target(0, 7, 3, 4), 2);
        Due.same("2 facts", ofTarget(x, 0), "8 0 0 0 0 1 1 0 0 0");
        Due.same("2 facts", ofTarget(x, 1), "119 255 20 200 0 1 1 0 0 0");
        Due.same("2 facts", ofTarget(x, 2), "0 7 3 4 0 1 0 0 0 0");
        for (int address : new int[] {-1, 1, 7, 120, 127, Integer.MIN_VALUE, Integer.MAX_VALUE}) {
            Due.refused("2 address " + address, x, ARGUMENT, () -> x.target(address, 0, 0, 0));
        }
        for (int id : new int[] {-1, 256, Integer.MIN_VALUE, Integer.MAX_VALUE}) {
            Due.refused("2 id " + id, x, ARGUMENT, () -> x.target(8, id, 0, 0));
        }
        for (int stretch : new int[] {-1, 21}) {
            Due.refused("2 stretch " + stretch, x, ARGUMENT, () -> x.target(8, 0, stretch, 0));
        }
        for (int delay : new int[] {-1, 201}) {
            Due.refused("2 delay " + delay, x, ARGUMENT, () -> x.target(8, 0, 0, delay));
        }
        Due.same("2 fourth", x.target(0, 0, 0, 0), 3);
        Due.same("2 fifth", x.target(0, 0, 0, 0), 4);
        Due.same("2 sixth", x.target(0, 0, 0, 0), 5);
        Due.refused("2 seventh", x, STATE, () -> x.target(8, 0, 0, 0));
        Due.refused("2 seventh, and wrong", x, ARGUMENT, () -> x.target(7, 0, 0, 0));
        Due.same("2 registers are 0", x.register(5, 15), 0);
    }

    // ---- promise 3

    private static void wire() {
        Openline x = new Openline();
        x.target(20, 0, 0, 0);
        x.target(21, 0, 0, 0);
        Due.same("3 before", x.wire(1, 3), 0);
        Due.same("3 before", x.wire(1, 1), 3);
        Due.same("3 channel", x.ofTarget(1, 4), 1);
        Due.same("3 the other one", x.ofTarget(0, 4), 0);
        Due.same("3 it does not listen", x.ofTarget(1, 6), 0);
        Due.same("3 load", x.bus(2), 25);
        Due.refused("3 target -1", x, INDEX, () -> x.wire(-1, 0));
        Due.refused("3 target 2", x, INDEX, () -> x.wire(2, 0));
        Due.refused("3 both wrong", x, INDEX, () -> x.wire(2, 4));
        Due.refused("3 channel 4", x, ARGUMENT, () -> x.wire(0, 4));
        Due.refused("3 channel -1", x, ARGUMENT, () -> x.wire(0, -1));
        Due.same("3 back", x.wire(1, 0), 1);
        Due.same("3 it listens", x.ofTarget(1, 6), 1);
    }

    // ---- promise 4

    private static void open() {
        Openline x = new Openline();
        x.target(20, 0, 0, 0);
        for (int channel = 1; channel <= 3; channel++) {
            x.target(20 + channel, 0, 0, 0);
            x.wire(channel, channel);
        }
        x.target(0, 0, 0, 0);
        x.target(30, 0, 0, 0);
        x.power(5, false);
        Due.same("4 none", x.open(0), 1);
        Due.same("4 all", x.open(14), 4);
        Due.same("4 set", x.bus(8), 14);
        Due.same("4 channel 2", x.open(4), 2);
        Due.same("4 channel 1 listens not", x.ofTarget(1, 6), 0);
        Due.same("4 channel 2 listens", x.ofTarget(2, 6), 1);
        Due.same("4 channel 3 listens not", x.ofTarget(3, 6), 0);
        Due.same("4 load", x.bus(2), 10 + 15 * 3);
        for (int channels : new int[] {-2, -1, 1, 3, 15, 16, 5, Integer.MIN_VALUE}) {
            Due.refused("4 channels " + channels, x, ARGUMENT, () -> x.open(channels));
        }
        Due.same("4 1 and 3", x.open(10), 3);
        Due.same("4 listeners", x.bus(9), 3);
    }

    // ---- promise 5

    private static void power() {
        Openline x = new Openline();
        x.target(20, 0, 0, 200);
        x.target(21, 0, 0, 0);
        x.master(10, 0);
        x.put(0, 3, 9);
        x.put(0, 15, 255);
        x.put(1, 3, 8);
        x.write(0, 20, 0, 255, false);
        x.step();
        Due.same("5 busy", x.ofTarget(0, 7), 1);
        Due.same("5 had", x.power(0, false), true);
        Due.same("5 had not", x.power(0, false), false);
        Due.same("5 facts", ofTarget(x, 0), "20 0 0 200 0 0 0 0 0 0");
        Due.same("5 load", x.bus(2), 25);
        Due.same("5 had not", x.power(0, true), false);
        Due.same("5 had", x.power(0, true), true);
        Due.same("5 facts", ofTarget(x, 0), "20 0 0 200 0 1 1 0 0 0");
        Due.same("5 register 0", x.register(0, 0), 0);
        Due.same("5 register 3", x.register(0, 3), 0);
        Due.same("5 register 15", x.register(0, 15), 0);
        Due.same("5 the other one", x.register(1, 3), 8);
        x.read(0, 20, 3, false);
        Due.same("5 holds", x.cut(0, 1), 1);
        Due.same("5 stuck", x.bus(4), 1);
        x.power(1, false);
        Due.same("5 another one's power frees nothing", x.bus(4), 1);
        x.power(0, true);
        Due.same("5 giving power frees nothing", x.bus(4), 1);
        x.power(0, false);
        Due.same("5 holds no more", x.ofTarget(0, 8), 0);
        Due.same("5 stuck no more", x.bus(4), 0);
        Due.refused("5 target -1", x, INDEX, () -> x.power(-1, true) ? 1 : 0);
        Due.refused("5 target 2", x, INDEX, () -> x.power(2, true) ? 1 : 0);
    }

    // ---- promise 6

    private static void put() {
        Openline x = new Openline();
        x.target(20, 0, 0, 200);
        x.target(0, 0, 0, 0);
        Due.same("6 before", x.put(0, 0, 255), 0);
        Due.same("6 before", x.put(0, 0, 0), 255);
        Due.same("6 before", x.put(0, 15, 7), 0);
        Due.same("6 register", x.register(0, 15), 7);
        Due.same("6 register", x.register(0, 14), 0);
        Due.same("6 not over the bus", ofTarget(x, 0), "20 0 0 200 0 1 1 0 0 0");
        Due.same("6 without an address", x.put(1, 1, 1), 0);
        x.power(1, false);
        Due.refused("6 no power", x, STATE, () -> x.put(1, 0, 0));
        Due.refused("6 no power and value", x, ARGUMENT, () -> x.put(1, 0, 256));
        Due.refused("6 value -1", x, ARGUMENT, () -> x.put(0, 0, -1));
        Due.refused("6 value 256", x, ARGUMENT, () -> x.put(0, 0, 256));
        Due.refused("6 register 16", x, INDEX, () -> x.put(0, 16, 0));
        Due.refused("6 register -1", x, INDEX, () -> x.put(0, -1, 256));
        Due.refused("6 register and power", x, INDEX, () -> x.put(1, 16, 0));
        Due.refused("6 target 2", x, INDEX, () -> x.put(2, 0, 0));
        Due.refused("6 target -1", x, INDEX, () -> x.put(-1, 0, 256));
    }

    // ---- promise 7

    private static void resistor() {
        Openline x = new Openline();
        Due.same("7 at first 10", x.bus(3), 1);
        Due.same("7 least", x.resistor(1), 1);
        Due.same("7 whole", x.resistor(20), 2);
        Due.same("7 rounded up", x.resistor(21), 3);
        Due.same("7 greatest", x.resistor(99), 10);
        for (int i = 0; i < 6; i++) {
            x.target(20 + i, 0, 0, 0);
        }
        Due.same("7 told", x.bus(3), 99);
        Due.same("7 load 100", x.resistor(37), 37);
        for (int resistor : new int[] {-1, 0, 100, Integer.MAX_VALUE}) {
            Due.refused("7 resistor " + resistor, x, ARGUMENT, () -> x.resistor(resistor));
        }
        x.power(0, false);
        Due.same("7 load 85", x.resistor(99), 85);
    }

    // ---- promise 8

    private static void master() {
        Openline x = new Openline();
        Due.same("8 first", x.master(2, 0), 0);
        Due.same("8 second", x.master(200, 500), 1);
        Due.same("8 facts", ofMaster(x, 0), "2 0 0 0 0 0 0");
        Due.same("8 facts", ofMaster(x, 1), "200 500 0 0 0 0 1");
        for (int period : new int[] {-1, 0, 1, 201, Integer.MAX_VALUE}) {
            Due.refused("8 period " + period, x, ARGUMENT, () -> x.master(period, 0));
        }
        for (int gap : new int[] {-1, 501, Integer.MIN_VALUE}) {
            Due.refused("8 gap " + gap, x, ARGUMENT, () -> x.master(2, gap));
        }
        x.pass(100);
        Due.same("8 third", x.master(3, 4), 2);
        Due.same("8 ready at 0 even if told later", ofMaster(x, 2), "3 4 0 0 0 0 0");
        Due.refused("8 fourth", x, STATE, () -> x.master(2, 0));
        Due.refused("8 fourth, and wrong", x, ARGUMENT, () -> x.master(1, 0));
    }

    // ---- promise 9

    private static void write() {
        Openline x = new Openline();
        x.master(10, 0);
        x.master(10, 0);
        Due.same("9 first", x.write(0, 0, 0, 0, false), 1);
        Due.same("9 second", x.write(0, 127, 255, 255, true), 2);
        Due.same("9 another script", x.write(1, 1, 1, 1, true), 1);
        for (int wrong : new int[] {-1, 128, Integer.MAX_VALUE}) {
            Due.refused("9 address " + wrong, x, ARGUMENT, () -> x.write(0, wrong, 0, 0, false));
        }
        for (int wrong : new int[] {-1, 256}) {
            Due.refused("9 register " + wrong, x, ARGUMENT, () -> x.write(0, 0, wrong, 0, false));
            Due.refused("9 value " + wrong, x, ARGUMENT, () -> x.write(0, 0, 0, wrong, false));
        }
        Due.refused("9 master 2", x, INDEX, () -> x.write(2, 0, 0, 0, false));
        Due.refused("9 master -1", x, INDEX, () -> x.write(-1, 128, 0, 0, false));
        for (int i = 3; i <= 8; i++) {
            Due.same("9 more", x.write(0, 1, 1, 1, false), i);
        }
        Due.refused("9 ninth", x, STATE, () -> x.write(0, 1, 1, 1, false));
        Due.refused("9 ninth, and wrong", x, ARGUMENT, () -> x.write(0, 1, 1, 256, false));
        Due.same("9 waiting", x.ofMaster(0, 2), 8);
        Due.same("9 waiting", x.ofMaster(1, 2), 1);
    }

    // ---- promise 10

    private static void read() {
        Openline x = new Openline();
        x.master(10, 0);
        x.master(10, 0);
        Due.same("10 first", x.read(1, 0, 0, false), 1);
        Due.same("10 second", x.read(1, 127, 255, true), 2);
        Due.same("10 another script", x.read(0, 127, 255, true), 1);
        for (int wrong : new int[] {-1, 128}) {
            Due.refused("10 address " + wrong, x, ARGUMENT, () -> x.read(0, wrong, 0, false));
        }
        for (int wrong : new int[] {-1, 256}) {
            Due.refused("10 register " + wrong, x, ARGUMENT, () -> x.read(0, 0, wrong, false));
        }
        Due.refused("10 master 2", x, INDEX, () -> x.read(2, 0, 0, false));
        Due.refused("10 master -1", x, INDEX, () -> x.read(-1, 0, 256, false));
        for (int i = 3; i <= 8; i++) {
            Due.same("10 more", x.read(1, 1, 1, false), i);
        }
        Due.refused("10 ninth", x, STATE, () -> x.read(1, 1, 1, false));
        Due.refused("10 ninth, and wrong", x, ARGUMENT, () -> x.read(1, 128, 1, false));
        x.step();
        Due.same("10 there is room again", x.read(1, 1, 1, false), 8);
    }

    // ---- promise 11

    private static void step() {
        writeTakesItsTime();
        readTakesItsTime();
        biddingForAddresses();
        biddingForRegistersAndBytes();
        writesAndReads();
        checkedAndNot();
        refusedOnes();
        manyAnswer();
        busyOnes();
        waiting();
        stepLetsGo();
        stepRefused();
    }

    private static void writeTakesItsTime() {
        Openline x = new Openline();
        x.target(20, 1, 3, 40);
        x.master(12, 5);
        x.write(0, 20, 2, 85, true);
        x.write(0, 20, 3, 1, false);
        Due.same("11 write", x.step(), 1);
        Due.same("11 trace", x.trace(), "S28+02+55+94+P");
        // start, 4 bytes of 9 bits with 3 stretches, stop
        Due.same("11 tick", x.bus(0), 12 + 4 * 108 + 3 * 3 + 12);
        Due.same("11 facts", ofMaster(x, 0), "12 5 1 1 0 470 1");
        Due.same("11 register", x.register(0, 2), 85);
        Due.same("11 result", x.result(0, 0), 256);
        x.pass(100);
        Due.same("11 write", x.step(), 1);
        Due.same("11 trace", x.trace(), "S28+03+01+P");
        Due.same("11 tick", x.bus(0), 565 + 12 + 3 * 108 + 2 * 3 + 12);
        Due.same("11 register", x.register(0, 3), 1);
        Due.same("11 bytes", x.bus(5), 7);
        Due.same("11 occupations", x.bus(1), 2);
    }

    private static void readTakesItsTime() {
        Openline x = new Openline();
        x.target(119, 1, 7, 40);
        x.put(0, 15, 0xa5);
        x.master(2, 0);
        x.read(0, 119, 15, false);
        x.read(0, 119, 15, true);
        // load 25, rise 3: a bit takes 8, as the period of 2 does not fit
        Due.same("11 read", x.step(), 1);
        Due.same("11 trace", x.trace(), "See+0f+Sef+a5-P");
        Due.same("11 tick", x.bus(0), 8 + 72 + 79 + 8 + 79 + 79 + 8);
        Due.same("11 result", x.result(0, 0), 0xa5);
        Due.same("11 not busy", x.ofTarget(0, 7), 0);
        x.step();
        Due.same("11 trace", x.trace(), "See+0f+Sef+a5+" + hex(checkOf(0xee, 0x0f, 0xef, 0xa5)) + "-P");
        Due.same("11 tick", x.bus(0), 333 + 333 + 79);
        Due.same("11 result", x.result(0, 1), 0xa5);
    }

    private static void biddingForAddresses() {
        Openline x = new Openline();
        x.target(20, 0, 1, 0);
        x.target(21, 0, 20, 0);
        x.master(12, 1);
        x.master(50, 7);
        x.write(0, 20, 0, 1, false);
        x.write(1, 21, 0, 2, false);
        Due.same("11 the smaller address wins", x.step(), 1);
        // the slower one counts in the start and in the byte in which it loses
        Due.same("11 tick", x.bus(0), 50 + 450 + 109 + 109 + 12);
        Due.same("11 winner", ofMaster(x, 0), "12 1 0 1 0 731 1");
        Due.same("11 loser", ofMaster(x, 1), "50 7 1 0 1 737 1");
        Due.same("11 the loser writes nothing", x.register(1, 0), 0);
        Due.same("11 later", x.step(), 2);
        Due.same("11 tick", x.bus(0), 737 + 50 + 450 + 470 + 470 + 50);
        Due.same("11 then it writes", x.register(1, 0), 2);
        // 64 before 63: the greatest bit comes first
        x.write(0, 64, 0, 0, false);
        x.write(1, 63, 0, 0, false);
        x.pass(100);
        Due.same("11 the greatest bit first", x.step(), 2);
    }

    private static void biddingForRegistersAndBytes() {
        Openline x = new Openline();
        x.target(20, 0, 0, 0);
        x.master(10, 0);
        x.master(30, 3);
        x.master(20, 0);
        x.write(0, 20, 3, 0x80, false);
        x.write(1, 20, 4, 0, false);
        x.write(2, 20, 3, 0x7f, false);
        Due.same("11 two bid", x.would(0), 4);
        Due.same("11 two bid", x.step(), 4);
        // register: all three; byte: the two that are left
        Due.same("11 tick", x.bus(0), 30 + 270 + 270 + 180 + 20);
        Due.same("11 register", x.register(0, 3), 0x7f);
        Due.same("11 losses", x.ofMaster(0, 4), 1);
        Due.same("11 losses", x.ofMaster(1, 4), 1);
        Due.same("11 losses", x.ofMaster(2, 4), 0);
        Due.same("11 a loser waits for its gap", x.ofMaster(1, 5), 773);
        Due.same("11 without the one who waits", x.step(), 1);
        Due.same("11 register", x.register(0, 3), 0x80);
        x.write(0, 20, 4, 0, true);
        x.write(2, 20, 4, 0, true);
        x.write(1, 20, 4, 0, true);
        x.pass(50);
        Due.same("11 all the same", x.would(0), 5);
        Due.same("11 all the same", x.step(), 5);
        Due.same("11 losses", x.ofMaster(1, 4), 2);
        Due.same("11 once over the bus", x.bus(5), 3 + 3 + 4);
    }

    private static void writesAndReads() {
        Openline x = new Openline();
        x.target(20, 0, 2, 0);
        x.put(0, 3, 7);
        x.master(10, 0);
        x.master(30, 3);
        x.write(0, 20, 3, 255, false);
        x.read(1, 20, 3, false);
        Due.same("11 the write wins", x.step(), 1);
        Due.same("11 trace", x.trace(), "S28+03+ff+P");
        // the read counts up to the answer behind the register
        Due.same("11 tick", x.bus(0), 30 + 270 + 272 + 92 + 10);
        Due.same("11 loss", ofMaster(x, 1), "30 3 1 0 1 677 1");
        Due.same("11 the read later", x.step(), 2);
        Due.same("11 result", x.result(1, 0), 255);
        // a read with a smaller register is ahead of a write
        x.write(0, 20, 4, 255, false);
        x.read(1, 20, 3, false);
        x.pass(10);
        Due.same("11 the smaller register wins", x.step(), 2);
    }

    private static void checkedAndNot() {
        Openline x = new Openline();
        x.target(20, 0, 2, 0);
        x.put(0, 3, 7);
        x.master(10, 0);
        x.master(30, 3);
        x.write(0, 20, 3, 255, true);
        x.write(1, 20, 3, 255, false);
        Due.same("11 the checked write goes on", x.step(), 1);
        // who is not checked counts in the byte, and not in the check
        Due.same("11 tick", x.bus(0), 30 + 270 + 272 + 272 + 92 + 10);
        Due.same("11 trace", x.trace(), "S28+03+ff+" + hex(checkOf(0x28, 3, 255)) + "+P");
        Due.same("11 loss", ofMaster(x, 1), "30 3 1 0 1 949 1");
        x.step();
        x.pass(10);
        x.read(0, 20, 3, true);
        x.read(1, 20, 3, false);
        int before = x.bus(0);
        Due.same("11 the checked read goes on", x.step(), 1);
        Due.same("11 tick", x.bus(0) - before, 30 + 270 + 272 + 30 + 272 + 272 + 92 + 10);
        Due.same("11 trace", x.trace(), "S28+03+S29+ff+" + hex(checkOf(0x28, 3, 0x29, 255)) + "-P");
        Due.same("11 the other one has no result", x.ofMaster(1, 3), 1);
        x.pass(10);
        x.read(0, 20, 3, false);
        Due.same("11 none is checked", x.step(), 3);
        Due.same("11 trace", x.trace(), "S28+03+S29+ff-P");
        Due.same("11 both have it", x.result(0, 2), 255);
        Due.same("11 both have it", x.result(1, 1), 255);
    }

    private static void refusedOnes() {
        Openline x = new Openline();
        x.target(20, 0, 9, 200);
        x.master(10, 0);
        x.master(20, 8);
        x.write(0, 21, 3, 255, true);
        x.read(1, 21, 3, false);
        Due.same("11 nobody answers", x.step(), 3);
        Due.same("11 trace", x.trace(), "S2a-P");
        Due.same("11 tick", x.bus(0), 20 + 180 + 20);
        Due.same("11 facts", ofMaster(x, 0), "10 0 0 1 0 220 1");
        Due.same("11 facts", ofMaster(x, 1), "20 8 0 1 0 228 1");
        Due.same("11 result", x.result(0, 0), -1);
        Due.same("11 result", x.result(1, 0), -1);
        Due.same("11 refused", x.bus(6), 2);
        Due.same("11 bytes", x.bus(5), 1);
        x.pass(8);
        x.write(0, 20, 16, 255, true);
        x.read(1, 20, 16, false);
        Due.same("11 no such register: no read loses", x.step(), 3);
        Due.same("11 trace", x.trace(), "S28+10-P");
        Due.same("11 tick", x.bus(0), 228 + 20 + 180 + 189 + 20);
        Due.same("11 refused", x.bus(6), 4);
        Due.same("11 losses", x.ofMaster(1, 4), 0);
        Due.same("11 not busy", x.ofTarget(0, 7), 0);
        x.write(0, 20, 255, 1, false);
        x.step();
        Due.same("11 trace", x.trace(), "S28+ff-P");
        x.write(0, 0, 1, 1, false);
        x.target(0, 0, 0, 0);
        x.step();
        Due.same("11 address 0 is nobody's", x.trace(), "S00-P");
    }

    private static void manyAnswer() {
        Openline x = new Openline();
        x.target(20, 0, 4, 10);
        x.target(20, 1, 6, 0);
        x.target(20, 2, 20, 0);
        x.target(21, 2, 19, 0);
        x.wire(2, 2);
        x.put(0, 5, 0xf3);
        x.put(1, 5, 0x3f);
        x.put(2, 5, 0);
        x.put(3, 5, 0);
        x.master(40, 0);
        x.read(0, 20, 5, false);
        x.step();
        Due.same("11 the and of those who answer", x.result(0, 0), 0x33);
        // the greatest stretch of those who answer
        Due.same("11 tick", x.bus(0), 40 + 360 + 366 + 40 + 366 + 366 + 40);
        x.write(0, 20, 5, 0x12, false);
        x.step();
        Due.same("11 into all of them", x.register(0, 5), 0x12);
        Due.same("11 into all of them", x.register(1, 5), 0x12);
        Due.same("11 not into others", x.register(2, 5), 0);
        Due.same("11 not into others", x.register(3, 5), 0);
        Due.same("11 busy by its own delay", x.ofTarget(0, 7), 1);
        Due.same("11 busy by its own delay", x.ofTarget(1, 7), 0);
        x.read(0, 20, 5, false);
        int before = x.bus(0);
        x.put(0, 5, 0);
        x.step();
        Due.same("11 who is busy does not count", x.result(0, 2), 0x12);
        Due.same("11 with the channel open", x.open(4), 4);
        x.read(0, 20, 5, false);
        x.step();
        Due.same("11 with the channel open", x.result(0, 3), 0);
        Due.same("11 tick of the latter", x.would(1), 0);
        Due.same("11 time goes on", x.bus(0) > before, true);
    }

    private static void busyOnes() {
        Openline x = new Openline();
        x.target(20, 0, 0, 200);
        x.master(10, 0);
        x.write(0, 20, 0, 1, false);
        x.write(0, 20, 0, 2, false);
        x.step();
        // 10 + 3 * 90 + 10
        Due.same("11 tick", x.bus(0), 290);
        x.pass(199);
        Due.same("11 busy till the delay is over", x.ofTarget(0, 7), 1);
        Due.same("11 nobody answers", x.scan(20, 20), 0);
        Due.same("11 would be refused", x.would(1), 110);
        x.pass(1);
        Due.same("11 busy no more", x.ofTarget(0, 7), 0);
        Due.same("11 answers", x.scan(20, 20), 1);
        x.step();
        Due.same("11 written", x.register(0, 0), 2);
        x.write(0, 20, 0, 3, false);
        x.pass(199);
        x.step();
        Due.same("11 it is asked as the occupation begins", x.result(0, 2), -1);
        Due.same("11 not written", x.register(0, 0), 2);
        x.write(0, 20, 0, 3, false);
        x.step();
        Due.same("11 refused ones do not keep it busy", x.result(0, 3), 256);
    }

    private static void waiting() {
        Openline x = new Openline();
        x.target(20, 0, 0, 100);
        x.master(10, 500);
        x.master(10, 300);
        x.write(0, 20, 0, 1, false);
        x.write(0, 20, 0, 2, false);
        x.step();
        Due.same("11 ready", x.ofMaster(0, 5), 790);
        Due.same("11 no wait is told", x.would(1), 290);
        Due.same("11 who would be", x.would(0), 1);
        Due.same("11 the tick stands", x.bus(0), 290);
        Due.same("11 waits", x.step(), 1);
        Due.same("11 tick", x.bus(0), 790 + 290);
        x.write(0, 20, 0, 3, false);
        x.write(1, 20, 1, 4, false);
        Due.same("11 who is ready first", x.step(), 2);
        Due.same("11 refused: it was busy", x.result(1, 0), -1);
        Due.same("11 tick", x.bus(0), 1080 + 110);
        x.write(1, 21, 1, 4, false);
        x.write(1, 21, 1, 4, false);
        // 0 is ready at 1580, 1 at 1490
        Due.same("11 tick", x.step(), 2);
        Due.same("11 tick", x.bus(0), 1490 + 110);
        Due.same("11 ready by then", x.step(), 1);
        Due.same("11 tick", x.bus(0), 1600 + 290);
    }

    private static void stepLetsGo() {
        Openline x = new Openline();
        x.target(20, 0, 0, 0);
        x.put(0, 0, 0xff);
        x.master(10, 0);
        for (int i = 0; i < 3; i++) {
            x.read(0, 20, 0, false);
        }
        x.cut(0, 3);
        x.would(0);
        Due.same("11 would lets nobody go", x.ofTarget(0, 8), 5);
        x.step();
        Due.same("11 nobody holds any more", x.ofTarget(0, 8), 0);
        x.cut(0, 3);
        Due.same("12 no occupation lets nobody go", x.run(), 0);
        Due.same("12 no occupation lets nobody go", x.ofTarget(0, 8), 5);
        x.read(0, 20, 0, false);
        x.run();
        Due.same("12 nobody holds any more", x.ofTarget(0, 8), 0);
    }

    private static void stepRefused() {
        Openline x = new Openline();
        Due.refused("11 no master", x, STATE, x::step);
        x.master(10, 0);
        Due.refused("11 nothing waits", x, STATE, x::step);
        x.target(20, 0, 0, 0);
        x.read(0, 20, 0, false);
        x.read(0, 20, 0, false);
        x.cut(0, 1);
        Due.refused("11 stuck", x, STATE, x::step);
        x.clocks(9);
        Due.same("11 free again", x.step(), 1);
        Due.refused("11 nothing waits", x, STATE, x::step);
    }

    // ---- promise 12

    private static void run() {
        Openline x = new Openline();
        Due.same("12 none", x.run(), 0);
        x.target(20, 0, 0, 0);
        for (int i = 0; i < 3; i++) {
            x.master(10 + i, i);
            for (int k = 0; k < 8; k++) {
                x.write(i, 20, 3 * k + i, 8 * k + i, false);
            }
        }
        Due.same("12 all one by one", x.run(), 24);
        Due.same("12 occupations", x.bus(1), 24);
        Due.same("12 refused", x.bus(6), 8);
        Due.same("12 nothing waits", x.ofMaster(0, 2) + x.ofMaster(1, 2) + x.ofMaster(2, 2), 0);
        Due.same("12 all written", x.register(0, 15), 40);
        Due.same("12 none", x.run(), 0);
        x.pass(10);
        for (int i = 0; i < 3; i++) {
            x.read(i, 20, 15, false);
        }
        Due.same("12 together", x.run(), 1);
        Due.same("12 together", x.result(2, 8), 40);
        x.put(0, 0, 0);
        x.read(0, 20, 0, false);
        x.cut(0, 1);
        Due.refused("12 stuck, even if nothing waits", x, STATE, x::run);
        x.read(0, 20, 0, false);
        Due.refused("12 stuck", x, STATE, x::run);
    }

    // ---- promise 13

    private static void cut() {
        cutTakesItsTime();
        cutHolds();
        cutRefusedOnTheBus();
        cutNotDone();
    }

    private static void cutTakesItsTime() {
        Openline x = new Openline();
        x.target(20, 0, 7, 0);
        x.put(0, 1, 0xff);
        x.master(10, 500);
        x.master(100, 0);
        x.read(0, 20, 1, true);
        x.read(0, 20, 1, true);
        x.read(0, 20, 1, false);
        x.read(1, 8, 1, false);
        x.read(1, 8, 1, false);
        Due.same("13 another one is ready: it does not bid", x.cut(0, 3), 1);
        // start, 2 bytes, start, a byte, 3 bits; stretched behind the second and third byte
        Due.same("13 tick", x.bus(0), 10 + 90 + 97 + 10 + 97 + 30);
        Due.same("13 bytes", x.bus(5), 3);
        Due.same("13 no occupation", x.bus(1), 0);
        Due.same("13 refused", x.bus(6), 1);
        Due.same("13 no trace", x.trace(), "");
        Due.same("13 facts", ofMaster(x, 0), "10 500 2 1 0 834 1");
        Due.same("13 the other one", ofMaster(x, 1), "100 0 2 0 0 0 1");
        Due.same("13 result", x.result(0, 0), -1);
        Due.same("13 holds", x.ofTarget(0, 8), 5);
        Due.same("13 at once, though it is not ready", x.cut(0, 8), 0);
        Due.same("13 tick", x.bus(0), 334 + 10 + 90 + 97 + 10 + 97 + 80);
        Due.same("13 facts", ofMaster(x, 0), "10 500 1 2 0 1218 1");
        Due.same("13 holds nothing", x.ofTarget(0, 8), 0);
        Due.same("13 the other one's turn", x.step(), 2);
        Due.same("13 a trace", x.trace(), "S10-P");
        x.cut(0, 1);
        Due.same("13 the trace stands", x.trace(), "S10-P");
        x.read(0, 20, 1, false);
        x.would(0);
        x.would(1);
        Due.same("13 the trace stands", x.trace(), "S10-P");
    }

    private static void cutHolds() {
        Openline x = new Openline();
        x.target(20, 0, 0, 0);
        x.target(20, 0, 0, 0);
        x.target(21, 0, 0, 0);
        x.target(20, 0, 0, 0);
        x.put(0, 1, 0b11010101);
        x.put(1, 1, 0b11111111);
        x.master(40, 0);
        for (int i = 0; i < 4; i++) {
            x.read(0, 20, 1, false);
        }
        x.power(3, false);
        Due.same("13 all who answered hold", x.cut(0, 2), 3);
        Due.same("13 stuck by the third bit", x.bus(4), 1);
        Due.same("13 six bits", x.ofTarget(0, 8), 6);
        Due.same("13 six bits", x.ofTarget(1, 8), 6);
        Due.same("13 the others do not hold", x.ofTarget(2, 8), 0);
        x.put(0, 1, 0xff);
        Due.same("13 the byte as it was", x.bus(4), 1);
        Due.same("13 one clock frees it", x.clocks(9), 1);
        Due.same("13 a new cut lets go", x.cut(0, 7), 3);
        Due.same("13 one bit", x.ofTarget(1, 8), 1);
        Due.same("13 not stuck", x.bus(4), 0);
        x.put(0, 1, 0xfe);
        Due.same("13 not stuck", x.bus(4), 0);
        Due.same("13 the last bit", x.cut(0, 7), 3);
        Due.same("13 stuck", x.bus(4), 1);
        x.clocks(1);
        Due.same("13 all went", x.ofTarget(0, 8), 0);
        Due.same("13 all went", x.ofTarget(1, 8), 0);
        x.put(1, 1, 0);
        Due.same("13 all bits went", x.cut(0, 8), 0);
        Due.same("13 not stuck", x.bus(4), 0);
    }

    private static void cutRefusedOnTheBus() {
        Openline x = new Openline();
        x.target(20, 0, 5, 50);
        x.master(10, 3);
        x.read(0, 21, 0, false);
        x.read(0, 20, 16, false);
        x.read(0, 20, 1, false);
        x.target(22, 0, 0, 0);
        x.power(1, false);
        Due.same("13 nobody answers", x.cut(0, 4), 0);
        Due.same("13 tick", x.bus(0), 10 + 90 + 10);
        Due.same("13 bytes", x.bus(5), 1);
        Due.same("13 facts", ofMaster(x, 0), "10 3 2 1 0 113 1");
        Due.same("13 no such register", x.cut(0, 4), 0);
        Due.same("13 tick", x.bus(0), 110 + 10 + 90 + 95 + 10);
        Due.same("13 bytes", x.bus(5), 3);
        Due.same("13 refused", x.bus(6), 2);
        x.master(20, 0);
        x.write(1, 20, 0, 1, false);
        x.power(0, true);
        x.read(0, 20, 1, false);
        x.run();
        x.read(0, 20, 1, false);
        int busyTick = x.bus(0);
        x.write(1, 20, 0, 1, false);
        x.step();
        Due.same("13 busy", x.ofTarget(0, 7), 1);
        Due.same("13 later", x.bus(0) > busyTick, true);
        Due.same("13 who is busy does not answer", x.cut(0, 1), 0);
        Due.same("13 result", x.result(0, x.ofMaster(0, 3) - 1), -1);
        Due.same("13 no cut is an occupation", x.trace(), "S28+00+01+P");
        cutLetsGo();
    }

    private static void cutLetsGo() {
        Openline x = new Openline();
        x.target(20, 0, 0, 0);
        x.target(21, 0, 0, 0);
        x.put(0, 0, 0xff);
        x.put(1, 0, 0xff);
        x.master(10, 0);
        x.read(0, 20, 0, false);
        x.read(0, 21, 0, false);
        x.read(0, 22, 0, false);
        Due.same("13 the first holds", x.cut(0, 3), 1);
        Due.same("13 the other one alone", x.cut(0, 3), 2);
        Due.same("13 refused, and nobody holds", x.cut(0, 3), 0);
        Due.same("13 nobody holds", x.ofTarget(1, 8), 0);
    }

    private static void cutNotDone() {
        Openline x = new Openline();
        x.target(20, 0, 0, 0);
        x.master(10, 0);
        x.master(10, 0);
        Due.refused("13 nothing waits", x, STATE, () -> x.cut(0, 1));
        x.write(0, 20, 0, 1, false);
        x.read(0, 20, 0, false);
        x.read(1, 20, 0, false);
        x.read(1, 20, 0, false);
        Due.refused("13 a write is first", x, STATE, () -> x.cut(0, 1));
        for (int bits : new int[] {-1, 0, 9, Integer.MAX_VALUE}) {
            Due.refused("13 bits " + bits, x, ARGUMENT, () -> x.cut(1, bits));
        }
        Due.refused("13 a write and bits", x, ARGUMENT, () -> x.cut(0, 9));
        Due.refused("13 master 2", x, INDEX, () -> x.cut(2, 1));
        Due.refused("13 master -1 and bits", x, INDEX, () -> x.cut(-1, 0));
        Due.same("13 holds", x.cut(1, 1), 1);
        Due.refused("13 stuck", x, STATE, () -> x.cut(1, 1));
        Due.refused("13 stuck and bits", x, ARGUMENT, () -> x.cut(1, 0));
    }

    // ---- promise 14

    private static void clocks() {
        Openline x = new Openline();
        Due.same("14 nothing holds", x.clocks(9), 0);
        x.target(20, 0, 0, 0);
        x.target(20, 0, 0, 0);
        x.target(0, 0, 0, 0);
        x.wire(2, 1);
        x.put(0, 1, 0b11100011);
        x.put(1, 1, 0b11111110);
        x.master(2, 0);
        x.read(0, 20, 1, false);
        x.cut(0, 3);
        int before = x.bus(0);
        Due.same("14 two at most", x.clocks(2), 2);
        // load 40, rise 4: a clock takes 10
        Due.same("14 tick", x.bus(0), before + 20);
        Due.same("14 still stuck", x.bus(4), 1);
        Due.same("14 three bits left", x.ofTarget(0, 8), 3);
        Due.same("14 one frees the first", x.clocks(1), 1);
        Due.same("14 not stuck", x.bus(4), 0);
        Due.same("14 it does not begin", x.clocks(9), 0);
        Due.same("14 tick", x.bus(0), before + 30);
        Due.same("14 clocks ever", x.bus(7), 3);
        x.read(0, 20, 0, false);
        x.cut(0, 1);
        Due.same("14 it stops with the last bit", x.clocks(9), 7);
        Due.same("14 clocks ever", x.bus(7), 10);
        Due.same("14 nobody holds", x.ofTarget(0, 8) + x.ofTarget(1, 8), 0);
        Due.same("14 who did not hold still does not", x.ofTarget(2, 8), 0);
        for (int many : new int[] {-1, 0, 10}) {
            Due.refused("14 many " + many, x, ARGUMENT, () -> x.clocks(many));
        }
        x.read(0, 20, 0, false);
        x.cut(0, 7);
        x.resistor(99);
        before = x.bus(0);
        Due.same("14 one", x.clocks(1), 1);
        Due.same("14 the rise counts", x.bus(0), before + 2 * 40 + 2);
    }

    // ---- promise 15

    private static void handOut() {
        Openline x = new Openline();
        Due.same("15 nobody", x.handOut(), 0);
        x.target(0, 128, 0, 0);
        x.target(9, 1, 0, 0);
        x.target(0, 127, 0, 0);
        x.target(0, 128, 0, 0);
        x.target(0, 0, 0, 0);
        x.target(0, 255, 0, 0);
        x.wire(4, 1);
        x.wire(5, 2);
        x.open(4);
        x.wire(1, 3);
        // load 10 + 15 * 4: rise 7, a bit takes 16; three times
        Due.same("15 got", x.handOut(), 4);
        Due.same("15 tick", x.bus(0), 3 * 160);
        Due.same("15 the smallest id first", x.ofTarget(2, 0), 8);
        Due.same("15 9 is taken by one who does not listen", x.ofTarget(0, 0), 10);
        Due.same("15 one id", x.ofTarget(3, 0), 10);
        Due.same("15 the greatest id", x.ofTarget(5, 0), 11);
        Due.same("15 not behind a closed channel", x.ofTarget(4, 0), 0);
        Due.same("15 the one with an address keeps it", x.ofTarget(1, 0), 9);
        Due.same("15 no occupation", x.bus(1) + x.bus(5), 0);
        x.open(2);
        x.power(4, false);
        Due.same("15 not without power", x.handOut(), 0);
        Due.same("15 it takes no time", x.bus(0), 480);
        x.power(4, true);
        x.power(2, false);
        Due.same("15 then it gets one", x.handOut(), 1);
        Due.same("15 8 is taken by one without power", x.ofTarget(4, 0), 12);
        handOutLetsGo();
        handOutToTheFirst();
    }

    private static void handOutToTheFirst() {
        Openline x = new Openline();
        x.target(0, 5, 0, 0);
        x.target(0, 6, 0, 0);
        Due.same("15 both", x.handOut(), 2);
        Due.same("15 the first", x.ofTarget(0, 0), 8);
        Due.same("15 the second", x.ofTarget(1, 0), 9);
        x.target(0, 4, 0, 0);
        Due.same("15 one more", x.handOut(), 1);
        Due.same("15 behind both", x.ofTarget(2, 0), 10);
        Openline y = new Openline();
        for (int i = 0; i < 6; i++) {
            y.target(0, 250 - 50 * i, 0, 0);
        }
        Due.same("15 six times", y.handOut(), 6);
        Due.same("15 six times", y.bus(0), 6 * 10 * 22);
        Due.same("15 the last is the first", y.ofTarget(5, 0), 8);
        Due.same("15 the first is the last", y.ofTarget(0, 0), 13);
    }

    private static void handOutLetsGo() {
        Openline x = new Openline();
        x.target(20, 0, 0, 0);
        x.put(0, 0, 0b11111110);
        x.master(10, 0);
        x.read(0, 20, 0, false);
        x.read(0, 20, 0, false);
        x.cut(0, 7);
        Due.refused("15 stuck", x, STATE, x::handOut);
        x.clocks(1);
        x.cut(0, 1);
        Due.same("15 holds and is not stuck", x.ofTarget(0, 8), 7);
        Due.same("15 nobody is without", x.handOut(), 0);
        Due.same("15 it let go all the same", x.ofTarget(0, 8), 0);
    }

    // ---- promise 16

    private static void pass() {
        Openline x = new Openline();
        Due.same("16 one", x.pass(1), 1);
        Due.same("16 most", x.pass(10000), 10001);
        Due.same("16 tick", x.bus(0), 10001);
        for (int ticks : new int[] {-1, 0, 10001, Integer.MIN_VALUE}) {
            Due.refused("16 ticks " + ticks, x, ARGUMENT, () -> x.pass(ticks));
        }
        Due.same("16 on", x.pass(9), 10010);
    }

    // ---- promise 17

    private static void sample() {
        Openline x = new Openline();
        Due.same("17 stop ahead of a start", drive(x, "10 11 10"), 3);
        Due.same("17 text", x.text(), "SPS");
        sendByte(x, 0xa9, 0);
        Due.same("17 text", x.text(), "SPSa9+");
        sendByte(x, 0x0f, 1);
        Due.same("17 text", x.text(), "SPSa9+0f-");
        Due.same("17 a repeated start drops what is not whole", drive(x, "00 10 01 11 10"), 10);
        sendByte(x, 0xff, 1);
        sendByte(x, 0x00, 0);
        Due.same("17 text", x.text(), "SPSa9+0f-Sff-00+");
        drive(x, "00 10 11");
        Due.same("17 stop", x.text(), "SPSa9+0f-Sff-00+P");
        sendByte(x, 0x55, 0);
        Due.same("17 bits behind a stop do not count", x.text(), "SPSa9+0f-Sff-00+P");
        sampleEdges();
        sampleRefused();
    }

    private static void sampleEdges() {
        Openline x = new Openline();
        Due.same("17 both are 1 at first", drive(x, "11"), 0);
        Due.same("17 both fall: nothing", drive(x, "00"), 0);
        Due.same("17 both rise: a bit", drive(x, "11"), 0);
        Due.same("17 data falls with the clock high", drive(x, "10"), 1);
        Due.same("17 data rises as the clock falls", drive(x, "01"), 1);
        Due.same("17 the clock rises as data falls: a bit of 0", drive(x, "10"), 1);
        Due.same("17 data changes with the clock low", drive(x, "00 01 00 01"), 1);
        Due.same("17 the clock rises: a bit of 1", drive(x, "11"), 1);
        drive(x, "11 11 01 01 11 01 00 10 00 10 00 10 00 10 00 10");
        Due.same("17 eight bits are no byte", x.text(), "S");
        drive(x, "00 01 11");
        Due.same("17 the bits as they were", x.text(), "S60-");
        Due.same("17 the same again: nothing", drive(x, "11 11"), 4);
    }

    private static void sampleRefused() {
        Openline x = new Openline();
        drive(x, "10");
        for (int wrong : new int[] {-1, 2}) {
            Due.refused("17 clock " + wrong, x, ARGUMENT, () -> x.sample(wrong, 0));
            Due.refused("17 data " + wrong, x, ARGUMENT, () -> x.sample(1, wrong));
        }
        Due.same("17 the levels stand", drive(x, "11"), 2);
        for (int i = 2; i < 98; i += 2) {
            drive(x, "10 11");
        }
        Due.same("17 98 signs", drive(x, "10"), 99);
        sendBits(x, 0x12, 0);
        Due.same("17 102 signs", x.text().length(), 102);
        Due.refused("17 it is full", x, STATE, () -> x.sample(1, 1));
        Due.refused("17 it is full, and wrong", x, ARGUMENT, () -> x.sample(1, 2));
        Openline y = new Openline();
        for (int i = 0; i < 100; i += 2) {
            drive(y, "10 11");
        }
        Due.same("17 100 signs", y.text().length(), 100);
        Due.refused("17 it is full", y, STATE, () -> y.sample(1, 1));
    }

    /** Samples as pairs of levels, the clock first; the last answer. */
    private static int drive(Openline x, String pairs) {
        int signs = 0;
        for (String pair : pairs.split(" ")) {
            signs = x.sample(pair.charAt(0) - '0', pair.charAt(1) - '0');
        }
        return signs;
    }

    /** A byte and its answer, and the wires as behind it: both low. */
    private static void sendByte(Openline x, int value, int answer) {
        sendBits(x, value, answer);
        x.sample(0, 1);
        x.sample(0, 0);
    }

    private static void sendBits(Openline x, int value, int answer) {
        int nine = 2 * value + answer;
        for (int bit = 8; bit >= 0; bit--) {
            int level = nine >> bit & 1;
            x.sample(0, level);
            x.sample(1, level);
        }
    }

    // ---- promise 18

    private static void ofTarget() {
        Openline x = new Openline();
        x.target(20, 11, 3, 40);
        x.target(20, 22, 13, 140);
        x.target(0, 33, 0, 0);
        x.target(0, 33, 0, 0);
        x.target(21, 33, 0, 0);
        x.wire(1, 3);
        x.open(8);
        Due.same("18 all", ofTarget(x, 0), "20 11 3 40 0 1 1 0 0 1");
        Due.same("18 all", ofTarget(x, 1), "20 22 13 140 3 1 1 0 0 1");
        Due.same("18 without an address nobody clashes", ofTarget(x, 2), "0 33 0 0 0 1 0 0 0 0");
        Due.same("18 another address", ofTarget(x, 4), "21 33 0 0 0 1 1 0 0 0");
        x.master(10, 0);
        x.write(0, 20, 0, 0, false);
        x.step();
        Due.same("18 busy", ofTarget(x, 0), "20 11 3 40 0 1 1 1 0 1");
        x.pass(200);
        x.read(0, 20, 0, false);
        x.cut(0, 2);
        Due.same("18 holds", ofTarget(x, 0), "20 11 3 40 0 1 1 0 6 1");
        x.open(0);
        Due.same("18 no clash", ofTarget(x, 0), "20 11 3 40 0 1 1 0 6 0");
        Due.same("18 it does not listen", ofTarget(x, 1), "20 22 13 140 3 1 0 0 6 0");
        x.open(8);
        x.power(0, false);
        Due.same("18 no clash", ofTarget(x, 1), "20 22 13 140 3 1 1 0 6 0");
        Openline y = new Openline();
        y.target(20, 0, 0, 0);
        y.target(20, 0, 0, 0);
        y.target(20, 0, 0, 0);
        y.wire(2, 1);
        Due.same("18 both clash", y.ofTarget(0, 9) + y.ofTarget(1, 9), 2);
        Due.same("18 who does not listen does not", y.ofTarget(2, 9), 0);
        Due.refused("18 target 5", x, INDEX, () -> x.ofTarget(5, 0));
        Due.refused("18 target -1", x, INDEX, () -> x.ofTarget(-1, 10));
        Due.refused("18 what 10", x, ARGUMENT, () -> x.ofTarget(0, 10));
        Due.refused("18 what -1", x, ARGUMENT, () -> x.ofTarget(0, -1));
    }

    // ---- promise 19

    private static void register() {
        Openline x = new Openline();
        x.target(20, 11, 3, 40);
        x.target(20, 11, 3, 40);
        for (int register = 0; register <= 15; register++) {
            x.put(1, register, 255 - register);
        }
        for (int register = 0; register <= 15; register++) {
            Due.same("19 register " + register, x.register(1, register), 255 - register);
            Due.same("19 of the other one " + register, x.register(0, register), 0);
        }
        Due.refused("19 target 2", x, INDEX, () -> x.register(2, 0));
        Due.refused("19 target -1", x, INDEX, () -> x.register(-1, 0));
        Due.refused("19 register 16", x, INDEX, () -> x.register(0, 16));
        Due.refused("19 register -1", x, INDEX, () -> x.register(0, -1));
        x.power(1, false);
        Due.same("19 without power", x.register(1, 0), 0);
    }

    // ---- promise 20

    private static void ofMaster() {
        Openline x = new Openline();
        x.master(8, 100);
        x.master(9, 200);
        Due.same("20 all", ofMaster(x, 0), "8 100 0 0 0 0 1");
        x.write(0, 20, 0, 0, false);
        x.write(0, 20, 0, 0, false);
        x.write(1, 21, 0, 0, false);
        x.step();
        // load 10, rise 1; 9 + 81 + 8
        Due.same("20 all", ofMaster(x, 0), "8 100 1 1 0 198 1");
        Due.same("20 all", ofMaster(x, 1), "9 200 1 0 1 298 1");
        x.target(20, 0, 0, 0);
        Due.same("20 8 fits a rise of 3", x.ofMaster(0, 6), 1);
        x.resistor(13);
        Due.same("20 8 does not fit a rise of 4", x.ofMaster(0, 6), 0);
        Due.same("20 nor does 9", x.ofMaster(1, 6), 0);
        Due.refused("20 master 2", x, INDEX, () -> x.ofMaster(2, 0));
        Due.refused("20 master -1", x, INDEX, () -> x.ofMaster(-1, 7));
        Due.refused("20 what 7", x, ARGUMENT, () -> x.ofMaster(0, 7));
        Due.refused("20 what -1", x, ARGUMENT, () -> x.ofMaster(0, -1));
    }

    // ---- promise 21

    private static void result() {
        Openline x = new Openline();
        x.target(20, 0, 0, 0);
        x.master(10, 0);
        x.master(10, 0);
        x.put(0, 0, 77);
        x.read(0, 20, 0, false);
        x.write(0, 20, 0, 78, false);
        x.read(0, 21, 0, false);
        x.read(0, 20, 0, true);
        Due.refused("21 none yet", x, INDEX, () -> x.result(0, 0));
        x.run();
        Due.same("21 a byte", x.result(0, 0), 77);
        Due.same("21 written", x.result(0, 1), 256);
        Due.same("21 none", x.result(0, 2), -1);
        Due.same("21 a byte", x.result(0, 3), 78);
        Due.refused("21 nth 4", x, INDEX, () -> x.result(0, 4));
        Due.refused("21 nth -1", x, INDEX, () -> x.result(0, -1));
        Due.refused("21 nth far", x, INDEX, () -> x.result(0, Integer.MAX_VALUE));
        Due.refused("21 another one", x, INDEX, () -> x.result(1, 0));
        Due.refused("21 master 2", x, INDEX, () -> x.result(2, 0));
        Due.refused("21 master -1", x, INDEX, () -> x.result(-1, 0));
        manyResults();
    }

    private static void manyResults() {
        Openline x = new Openline();
        x.target(20, 0, 0, 0);
        x.master(10, 0);
        int told = 0;
        for (int i = 0; i < 28; i++) {
            for (int k = 0; k < 8; k++) {
                x.write(0, 20, k, told % 3 == 0 ? 1 : 2, false);
                told++;
            }
            x.run();
        }
        x.read(0, 20, 7, false);
        x.run();
        Due.same("21 as many as came", x.ofMaster(0, 3), 225);
        Due.same("21 the first", x.result(0, 0), 256);
        Due.same("21 the last but one", x.result(0, 223), 256);
        Due.same("21 the last", x.result(0, 224), 2);
    }

    // ---- promise 22

    private static void bus() {
        Openline x = new Openline();
        x.target(20, 0, 0, 0);
        x.target(21, 0, 0, 0);
        x.target(0, 0, 0, 0);
        x.wire(1, 1);
        x.open(2);
        x.resistor(20);
        x.master(30, 0);
        Due.same("22 all", bus(x), "0 0 55 11 0 0 0 0 2 2");
        x.write(0, 20, 1, 1, true);
        x.read(0, 20, 1, true);
        x.read(0, 20, 0, false);
        x.read(0, 22, 0, false);
        x.step();
        Due.same("22 all", bus(x), 30 * 38 + " 1 55 11 0 4 0 0 2 2");
        x.step();
        Due.same("22 all", bus(x), 1140 + 30 * 48 + " 2 55 11 0 9 0 0 2 2");
        x.cut(0, 1);
        Due.same("22 all", bus(x), 2580 + 30 * 30 + " 2 55 11 1 12 1 0 2 2");
        x.clocks(3);
        Due.same("22 all", bus(x), 3480 + 3 * 24 + " 2 55 11 1 12 1 3 2 2");
        x.clocks(9);
        x.step();
        Due.same("22 all", bus(x), 3480 + 7 * 24 + 330 + " 3 55 11 0 13 2 7 2 2");
        x.power(0, false);
        x.open(0);
        Due.same("22 all", bus(x), 3978 + " 3 25 5 0 13 2 7 0 0");
        Due.refused("22 what 10", x, ARGUMENT, () -> x.bus(10));
        Due.refused("22 what -1", x, ARGUMENT, () -> x.bus(-1));
    }

    // ---- promise 23

    private static void trace() {
        Openline x = new Openline();
        x.target(0x0d, 0, 0, 0);
        x.put(0, 12, 0xef);
        x.master(10, 0);
        x.read(0, 0x0d, 12, false);
        Due.same("23 none yet", x.trace(), "");
        Due.same("23 would tells none", x.would(1) > 0, true);
        Due.same("23 none yet", x.trace(), "");
        x.step();
        Due.same("23 a read", x.trace(), "S1a+0c+S1b+ef-P");
        x.read(0, 0x0d, 12, true);
        x.step();
        Due.same("23 a checked read", x.trace(), "S1a+0c+S1b+ef+" + hex(checkOf(0x1a, 0x0c, 0x1b, 0xef)) + "-P");
        x.write(0, 0x0d, 12, 0xef, true);
        x.step();
        Due.same("23 a checked write", x.trace(), "S1a+0c+ef+" + hex(checkOf(0x1a, 0x0c, 0xef)) + "+P");
        x.handOut();
        x.sample(1, 0);
        Due.same("23 it stands", x.trace().length(), 14);
        x.write(0, 127, 12, 0xef, true);
        x.step();
        Due.same("23 refused", x.trace(), "Sfe-P");
        tracesAreReadBack();
    }

    /** What the trace tells, put on the wires by samples, is read back by the analyser. */
    private static void tracesAreReadBack() {
        Openline x = new Openline();
        x.target(50, 0, 0, 0);
        x.put(0, 5, 0x96);
        x.master(10, 0);
        x.read(0, 50, 5, true);
        x.step();
        String trace = x.trace();
        for (int i = 0; i < trace.length(); i++) {
            char sign = trace.charAt(i);
            if (sign == 'S') {
                drive(x, "01 11 10 00");
            } else if (sign == 'P') {
                drive(x, "00 10 11");
            } else {
                sendByte(x, Integer.parseInt(trace.substring(i, i + 2), 16), trace.charAt(i + 2) == '+' ? 0 : 1);
                i += 2;
            }
        }
        Due.same("23 read back", x.text(), trace);
    }

    // ---- promise 24

    private static void text() {
        Openline x = new Openline();
        Due.same("24 none", x.text(), "");
        drive(x, "10 11");
        Due.same("24 start and stop", x.text(), "SP");
        drive(x, "10");
        for (int i = 0; i < 16; i++) {
            sendByte(x, 17 * i, i % 2);
        }
        Due.same("24 all digits", x.text(), "SPS00+11-22+33-44+55-66+77-88+99-aa+bb-cc+dd-ee+ff-");
    }

    // ---- promise 25

    private static void check() {
        Openline x = new Openline();
        Due.same("25 zeros", x.check(0, 0, 0), 0);
        Due.same("25 all ones", x.check(255, 255, 255), 15);
        Due.same("25 the last one alone", x.check(0, 0, 1), 7);
        Due.same("25 the greatest bit", x.check(0, 0, 128), 0x89);
        Due.same("25 an example", x.check(0x28, 0x02, 0x55), 0x94);
        Due.same("25 '1' '2' '3'", x.check('1', '2', '3'), checkOf('1', '2', '3'));
        for (int wrong : new int[] {-1, 256}) {
            Due.refused("25 one " + wrong, x, ARGUMENT, () -> x.check(wrong, 0, 0));
            Due.refused("25 two " + wrong, x, ARGUMENT, () -> x.check(0, wrong, 0));
            Due.refused("25 three " + wrong, x, ARGUMENT, () -> x.check(0, 0, wrong));
        }
    }

    /** By long division of the whole row of bits, so in another way than the program's. */
    private static int checkOf(int... bytes) {
        int[] bits = new int[8 * bytes.length + 8];
        for (int i = 0; i < 8 * bytes.length; i++) {
            bits[i] = bytes[i / 8] >> 7 - i % 8 & 1;
        }
        int[] polynomial = {1, 0, 0, 0, 0, 0, 1, 1, 1};
        for (int i = 0; i < 8 * bytes.length; i++) {
            if (bits[i] == 1) {
                for (int k = 0; k < 9; k++) {
                    bits[i + k] ^= polynomial[k];
                }
            }
        }
        int rest = 0;
        for (int i = 8 * bytes.length; i < bits.length; i++) {
            rest = 2 * rest + bits[i];
        }
        return rest;
    }

    private static String hex(int one) {
        return String.format("%02x", one);
    }

    // ---- promise 26

    private static void scan() {
        Openline x = new Openline();
        Due.same("26 nobody", x.scan(0, 127), 0);
        x.target(8, 0, 0, 100);
        x.target(119, 0, 0, 0);
        x.target(119, 0, 0, 0);
        x.target(50, 0, 0, 0);
        x.target(51, 0, 0, 0);
        x.target(0, 0, 0, 0);
        x.wire(3, 1);
        x.power(4, false);
        Due.same("26 all", x.scan(0, 127), 2);
        Due.same("26 both ends count", x.scan(8, 119), 2);
        Due.same("26 behind the first", x.scan(9, 119), 1);
        Due.same("26 ahead of the last", x.scan(8, 118), 1);
        Due.same("26 one", x.scan(119, 119), 1);
        Due.same("26 nobody's", x.scan(0, 0), 0);
        x.open(2);
        Due.same("26 with the channel", x.scan(0, 127), 3);
        x.master(10, 0);
        x.write(0, 8, 0, 0, false);
        x.step();
        Due.same("26 who is busy does not answer", x.scan(0, 127), 2);
        x.pass(100);
        Due.same("26 again", x.scan(0, 127), 3);
        x.read(0, 8, 0, false);
        x.cut(0, 1);
        Due.same("26 stuck or not", x.scan(0, 127), 3);
        Due.refused("26 low -1", x, ARGUMENT, () -> x.scan(-1, 5));
        Due.refused("26 high below low", x, ARGUMENT, () -> x.scan(6, 5));
        Due.refused("26 high 128", x, ARGUMENT, () -> x.scan(0, 128));
        Due.refused("26 low 128", x, ARGUMENT, () -> x.scan(128, 128));
    }

    // ---- promise 27

    private static void would() {
        Openline x = new Openline();
        Due.same("27 no master", x.would(0), 0);
        Due.same("27 no master", x.would(1), 0);
        x.target(20, 0, 2, 150);
        x.master(10, 100);
        x.master(20, 0);
        Due.same("27 nothing waits", x.would(0), 0);
        x.write(0, 20, 1, 2, true);
        x.write(1, 20, 1, 2, false);
        Due.same("27 who", x.would(0), 1);
        Due.same("27 how long", x.would(1), 20 + 180 + 182 + 182 + 92 + 10);
        long before = x.digest();
        x.would(0);
        x.would(1);
        Due.same("27 nothing is changed", x.digest(), before);
        x.step();
        Due.same("27 as step did it", x.bus(0), 666);
        Due.same("27 the other one now", x.would(0), 2);
        Due.same("27 refused, as it is busy", x.would(1), 20 + 180 + 20);
        x.step();
        x.write(0, 20, 1, 2, false);
        // ready at 766, and busy till 816; at 886 it is over
        Due.same("27 at the tick now", x.would(1), 10 + 90 + 92 + 92 + 10);
        wouldWait();
        wouldStuck();
        Due.refused("27 what 2", x, ARGUMENT, () -> x.would(2));
        Due.refused("27 what -1", x, ARGUMENT, () -> x.would(-1));
    }

    private static void wouldWait() {
        Openline x = new Openline();
        x.target(20, 0, 0, 150);
        x.master(10, 200);
        x.write(0, 20, 1, 2, false);
        x.write(0, 20, 1, 2, false);
        x.step();
        Due.same("27 busy now", x.ofTarget(0, 7), 1);
        Due.same("27 but no more behind the wait", x.would(1), 290);
        x.step();
        Due.same("27 as step did it", x.result(0, 1), 256);
    }

    private static void wouldStuck() {
        Openline x = new Openline();
        x.target(20, 0, 0, 0);
        x.master(10, 0);
        x.read(0, 20, 1, false);
        x.cut(0, 1);
        Due.same("27 stuck, nothing waits", x.would(0), -1);
        Due.same("27 stuck, nothing waits", x.would(1), -1);
        x.read(0, 20, 1, false);
        Due.same("27 stuck", x.would(0), -1);
        Due.same("27 stuck", x.would(1), -1);
        x.clocks(9);
        Due.same("27 free", x.would(0), 1);
    }

    // ---- promise 28

    private static void fit() {
        Openline x = new Openline();
        // load 10: rise 1 up to 10, 2 up to 20
        Due.same("28 period 2", x.fit(2), -1);
        Due.same("28 period 3", x.fit(3), -1);
        Due.same("28 period 4", x.fit(4), 10);
        Due.same("28 period 5", x.fit(5), 10);
        Due.same("28 period 6", x.fit(6), 20);
        Due.same("28 period 21", x.fit(21), 90);
        Due.same("28 period 22", x.fit(22), 99);
        Due.same("28 period 200", x.fit(200), 99);
        for (int i = 0; i < 6; i++) {
            x.target(20, 0, 0, 0);
        }
        Due.same("28 load 100", x.fit(200), 99);
        Due.same("28 load 100", x.fit(199), 98);
        Due.same("28 load 100", x.fit(4), 1);
        Due.same("28 load 100", x.fit(3), -1);
        Due.same("28 nothing is changed", x.bus(3), 10);
        for (int period : new int[] {-1, 0, 1, 201}) {
            Due.refused("28 period " + period, x, ARGUMENT, () -> x.fit(period));
        }
    }

    // ---- promise 29

    private static void isSound() {
        Openline x = new Openline();
        x.target(0, 255, 20, 200);
        x.target(119, 255, 20, 200);
        x.master(2, 500);
        for (int i = 0; i < 8; i++) {
            x.write(0, 119, 15, 255, true);
        }
        Due.same("29 full", x.isSound(), true);
        x.run();
        Due.same("29 with results", x.isSound(), true);
        x.pass(200);
        x.read(0, 119, 0, false);
        Due.same("29 holds", x.cut(0, 1), 2);
        Due.same("29 who holds has power", x.isSound(), true);
        x.power(1, false);
        Due.same("29 without power", x.isSound(), true);
        x.handOut();
        Due.same("29 handed out", x.isSound(), true);
    }

    // ---- promise 30

    private static void digest() {
        Openline x = new Openline();
        Due.same("30 of a new one", x.digest(), digestOf(x));
        x.target(20, 1, 2, 3);
        x.target(20, 255, 20, 200);
        x.target(0, 4, 4, 4);
        x.put(0, 0, 1);
        x.put(1, 15, 255);
        x.wire(1, 1);
        x.open(2);
        Due.same("30 with targets", x.digest(), digestOf(x));
        x.master(12, 5);
        x.master(40, 0);
        x.write(0, 20, 1, 4, true);
        x.read(1, 20, 0, true);
        x.read(1, 20, 0, false);
        x.read(1, 20, 0, false);
        x.read(1, 90, 0, false);
        x.read(1, 20, 0, false);
        drive(x, "10 11 10");
        Due.same("30 with masters", x.digest(), digestOf(x));
        x.step();
        Due.same("30 with a result", x.digest(), digestOf(x));
        x.pass(300);
        x.step();
        x.step();
        Due.same("30 with two", x.digest(), digestOf(x));
        x.step();
        x.step();
        Due.same("30 with four", x.digest(), digestOf(x));
        x.cut(1, 3);
        Due.same("30 stuck", x.digest(), digestOf(x));
        Due.same("30 nothing is changed", x.digest(), digestOf(x));
    }

    private static long digestOf(Openline x) {
        long d = 6203;
        for (int what = 0; what <= 9; what++) {
            d = d * 31 + x.bus(what);
        }
        for (int target = 0; Due.thrownBy(targetCall(x, target)).equals("nothing"); target++) {
            for (int what = 0; what <= 9; what++) {
                d = d * 31 + x.ofTarget(target, what);
            }
            for (int register = 0; register <= 15; register++) {
                d = d * 31 + x.register(target, register);
            }
        }
        for (int master = 0; Due.thrownBy(masterCall(x, master)).equals("nothing"); master++) {
            for (int what = 0; what <= 6; what++) {
                d = d * 31 + x.ofMaster(master, what);
            }
            int results = x.ofMaster(master, 3);
            for (int nth = results - 1; nth >= results - 3; nth--) {
                d = d * 31 + (nth < 0 ? 999 : x.result(master, nth));
            }
        }
        d = d * 31 + x.text().length();
        d = d * 31 + x.trace().length();
        d = d * 31 + x.would(0);
        d = d * 31 + x.would(1);
        return d * 31 + (x.isSound() ? 1 : 0);
    }

    private static Due.Call targetCall(Openline x, int target) {
        return () -> x.ofTarget(target, 0);
    }

    private static Due.Call masterCall(Openline x, int master) {
        return () -> x.ofMaster(master, 0);
    }
}
