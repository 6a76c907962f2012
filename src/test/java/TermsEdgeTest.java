/** The terms of the document, sentence by sentence: what holds at the edge that a sentence names, and right beside it. */
public final class TermsEdgeTest {
    private static final int WRITE = 0;
    private static final int CHECKED_WRITE = 1;
    private static final int READ = 2;
    private static final int CHECKED_READ = 3;

    public static void main(String[] args) {
        targets();
        masters();
        bidding();
        answers();
        checks();
        time();
        addresses();
        heldLine();
        analyser();
        Due.end("TermsEdgeTest");
    }

    /** A bus with these targets (id, stretch and delay 0). */
    private static Openline busOf(int... addresses) {
        Openline x = new Openline();
        for (int address : addresses) {
            x.target(address, 0, 0, 0);
        }
        return x;
    }

    private static int waiting(Openline x, int master) {
        return x.ofMaster(master, 2);
    }

    private static int losses(Openline x, int master) {
        return x.ofMaster(master, 4);
    }

    private static void add(Openline x, int master, int kind, int address, int register) {
        boolean isChecked = kind == CHECKED_WRITE || kind == CHECKED_READ;
        if (kind == WRITE || kind == CHECKED_WRITE) {
            x.write(master, address, register, 0x5a, isChecked);
        } else {
            x.read(master, address, register, isChecked);
        }
    }

    // ---- 1. Targets

    private static void targets() {
        atMostSixTargets();
        sixteenRegistersZeroAtFirst();
        itListensIf();
        for (int delay : new int[] {0, 1, 2, 199, 200}) {
            busyAsLongAs(delay);
        }
        onlyWritesKeepBusy();
        asPowerGoesAtTheFirstTick();
        asPowerGoes();
        for (int many = 0; many <= 6; many++) {
            riseIsRounded(many);
        }
        aPeriodFits();
    }

    private static void atMostSixTargets() {
        Openline x = new Openline();
        for (int number = 0; number < 6; number++) {
            Due.same("t1 numbered from 0", x.target(119 - number, 255, 20, 200), number);
        }
        Due.refused("t1 at most 6", x, IllegalStateException.class, () -> x.target(8, 0, 0, 0));
        Due.same("t1 the sixth has its own", x.ofTarget(5, 0), 114);
        x.power(5, false);
        Due.refused("t1 one without power keeps its place", x, IllegalStateException.class, () -> x.target(8, 0, 0, 0));
    }

    private static void sixteenRegistersZeroAtFirst() {
        Openline x = busOf(0);
        for (int register = 0; register < 16; register++) {
            Due.same("t1 a byte, 0 at first", x.register(0, register), 0);
            Due.same("t1 the greatest byte", x.put(0, register, 255), 0);
        }
        for (int register = 0; register < 16; register++) {
            Due.same("t1 16 of them", x.put(0, register, 0), 255);
        }
    }

    /** "if it has power and an ADDRESS, and its CHANNEL is 0, or one of those that are OPEN" */
    private static void itListensIf() {
        for (int all = 0; all < 2 * 2 * 4 * 8; all++) {
            boolean hasPower = (all & 1) == 1;
            int address = (all >> 1 & 1) * 119;
            int channel = all >> 2 & 3;
            int open = 2 * (all >> 4);
            Openline x = busOf(address);
            x.wire(0, channel);
            x.power(0, hasPower);
            boolean isReached = hasPower && (channel == 0 || (open & 1 << channel) != 0);
            int listens = isReached && address != 0 ? 1 : 0;
            String what = "t1 power " + hasPower + " address " + address + " channel " + channel + " open " + open;
            Due.same(what, x.open(open), listens);
            Due.same(what, x.ofTarget(0, 6), listens);
            Due.same(what, x.bus(9), listens);
            Due.same(what, x.scan(0, 127), listens);
            Due.same(what + " load", x.bus(2), isReached ? 25 : 10);
        }
    }

    /** "as long as TICK is less than the end of that OCCUPATION (2) and DELAY" */
    private static void busyAsLongAs(int delay) {
        Openline x = new Openline();
        x.target(20, 0, 0, delay);
        x.master(10, 0);
        x.write(0, 20, 0, 255, false);
        x.step();
        Due.same("t1 busy behind it, delay " + delay, x.ofTarget(0, 7), delay > 0 ? 1 : 0);
        Due.same("t1 nobody to answer, delay " + delay, x.scan(20, 20), delay > 0 ? 0 : 1);
        if (delay > 1) {
            x.pass(delay - 1);
            Due.same("t1 busy one tick ahead of its end, delay " + delay, x.ofTarget(0, 7), 1);
        }
        if (delay > 0) {
            x.pass(1);
        }
        Due.same("t1 not busy at its end, delay " + delay, x.ofTarget(0, 7), 0);
        Due.same("t1 it answers at its end, delay " + delay, x.scan(20, 20), 1);
    }

    /** "As a BYTE is written into a REGISTER", in an OCCUPATION: neither by what is read, nor put, nor refused, nor cut. */
    private static void onlyWritesKeepBusy() {
        Openline x = new Openline();
        x.target(20, 0, 0, 200);
        x.target(20, 0, 0, 200);
        x.put(0, 1, 0x0f);
        x.put(1, 1, 0xf0);
        x.master(10, 0);
        Due.same("t1 put keeps nobody busy", x.scan(20, 20), 1);
        x.read(0, 20, 1, true);
        x.write(0, 20, 16, 1, true);
        x.read(0, 20, 1, true);
        x.step();
        Due.same("t1 nor does what is read", x.ofTarget(0, 7) + x.ofTarget(1, 7), 0);
        Due.same("t1 what is read stands", x.register(0, 1) + x.register(1, 1), 255);
        x.step();
        Due.same("t1 nor what is refused", x.ofTarget(0, 7) + x.ofTarget(1, 7), 0);
        x.cut(0, 8);
        Due.same("t1 nor a cut", x.ofTarget(0, 7) + x.ofTarget(1, 7), 0);
        x.write(0, 20, 1, 1, true);
        x.step();
        Due.same("t1 but what is written", x.ofTarget(0, 7) + x.ofTarget(1, 7), 2);
    }

    private static void asPowerGoesAtTheFirstTick() {
        Openline x = busOf(20);
        Due.same("t1 it had power at first", x.power(0, false), true);
        Due.same("t1 not busy at TICK 0", x.ofTarget(0, 7), 0);
        x.power(0, true);
        Due.same("t1 nor with power again", x.ofTarget(0, 7), 0);
        Due.same("t1 it answers at TICK 0", x.scan(20, 20), 1);
    }

    private static void asPowerGoes() {
        Openline x = new Openline();
        x.target(20, 7, 0, 200);
        x.target(21, 7, 0, 0);
        x.master(10, 0);
        for (int register = 0; register < 16; register++) {
            x.put(0, register, 255 - register);
            x.put(1, register, 1);
        }
        x.read(0, 20, 15, false);
        x.cut(0, 1);
        x.power(0, false);
        Due.same("t1 it holds nothing", x.ofTarget(0, 8), 0);
        x.power(0, true);
        for (int register = 0; register < 16; register++) {
            Due.same("t1 its registers become 0", x.register(0, register), 0);
            Due.same("t1 those of another one stand", x.register(1, register), 1);
        }
        x.write(0, 20, 15, 255, false);
        x.step();
        Due.same("t1 busy", x.ofTarget(0, 7), 1);
        x.power(0, true);
        Due.same("t1 power that it has already changes nothing", x.ofTarget(0, 7) + x.register(0, 15), 256);
        x.power(0, false);
        x.power(0, true);
        Due.same("t1 not busy any more", x.ofTarget(0, 7), 0);
        Due.same("t1 its address and id stand", x.ofTarget(0, 0) + x.ofTarget(0, 1), 27);
    }

    /** "RISE is (LOAD * RESISTOR + 99) / 100", rounded down: the least whole number not below a hundredth. */
    private static void riseIsRounded(int many) {
        Openline x = new Openline();
        for (int i = 0; i < many; i++) {
            x.target(0, 0, 0, 0);
        }
        int load = 10 + 15 * many;
        Due.same("t1 load of " + many, x.bus(2), load);
        for (int resistor = 1; resistor <= 99; resistor++) {
            int whole = load * resistor;
            int rise = 0;
            while (100 * rise < whole) {
                rise++;
            }
            Due.same("t1 rise, load " + load + ", resistor " + resistor, x.resistor(resistor), rise);
        }
    }

    /** "A PERIOD fits, if it is 2 * RISE and 2, or more." */
    private static void aPeriodFits() {
        for (int rise = 1; rise <= 99; rise++) {
            Openline x = busOf(20, 20, 20, 20, 20, 20);
            Due.same("t1 load 100: the rise is the resistor", x.resistor(rise), rise);
            x.master(2 * rise + 1, 0);
            x.master(2 * rise + 2, 0);
            x.master(Math.min(200, 2 * rise + 3), 0);
            Due.same("t1 a tick too short, rise " + rise, x.ofMaster(0, 6), 0);
            Due.same("t1 just as long, rise " + rise, x.ofMaster(1, 6), 1);
            Due.same("t1 longer, rise " + rise, x.ofMaster(2, 6), 1);
            Due.same("t1 fit of a tick too short", x.fit(2 * rise + 1), rise == 1 ? -1 : rise - 1);
            Due.same("t1 fit of just as long", x.fit(2 * rise + 2), rise);
        }
    }

    // ---- 2. Masters and transfers

    private static void masters() {
        atMostThreeMasters();
        atMostEightTransfers();
        addressesAndRegistersOfTransfers();
        tickBecomesTheEarliestOne();
        readyByTick();
        readyAtZeroAtFirst();
    }

    private static void atMostThreeMasters() {
        Openline x = new Openline();
        for (int number = 0; number < 3; number++) {
            Due.same("t2 numbered from 0", x.master(200, 500), number);
        }
        Due.refused("t2 at most 3", x, IllegalStateException.class, () -> x.master(2, 0));
    }

    private static void atMostEightTransfers() {
        Openline x = busOf(20, 21);
        x.master(10, 0);
        x.master(10, 0);
        for (int many = 1; many <= 8; many++) {
            Due.same("t2 at most 8", x.read(0, many == 2 ? 22 : 20, 0, false), many);
        }
        Due.refused("t2 a ninth write", x, IllegalStateException.class, () -> x.write(0, 20, 0, 0, false));
        Due.refused("t2 a ninth read", x, IllegalStateException.class, () -> x.read(0, 20, 0, false));
        x.write(1, 8, 0, 0, false);
        Due.same("t2 the other one wins", x.step(), 2);
        Due.refused("t2 a loss makes no room", x, IllegalStateException.class, () -> x.read(0, 20, 0, false));
        Due.same("t2 a result makes room", x.step(), 1);
        Due.same("t2 for one", x.read(0, 20, 0, false), 8);
        Due.refused("t2 and no more", x, IllegalStateException.class, () -> x.read(0, 20, 0, false));
        Due.same("t2 a refused one makes room", x.step() + x.result(0, 1), 0);
        Due.same("t2 for one", x.read(0, 20, 0, false), 8);
        x.cut(0, 8);
        Due.same("t2 a cut makes room", x.write(0, 20, 0, 0, false), 8);
        Due.same("t2 the other's script is its own", x.write(1, 20, 0, 0, false), 1);
        Due.same("t2 all go", x.run(), 9);
        Due.same("t2 both are empty", waiting(x, 0) + waiting(x, 1), 0);
        Due.refused("t2 an empty script", x, IllegalStateException.class, x::step);
    }

    private static void addressesAndRegistersOfTransfers() {
        Openline x = busOf(8, 119);
        x.master(10, 0);
        x.write(0, 0, 0, 0, false);
        x.read(0, 127, 255, true);
        x.read(0, 8, 0, false);
        x.write(0, 119, 15, 255, false);
        x.write(0, 119, 16, 255, false);
        x.read(0, 119, 255, false);
        String[] traces = {"S00-P", "Sfe-P", "S10+00+S11+00-P", "See+0f+ff+P", "See+10-P", "See+ff-P"};
        for (String trace : traces) {
            x.step();
            Due.same("t2 address 0 to 127, register 0 to 255", x.trace(), trace);
        }
    }

    /** "TICK becomes the earliest one at which a MASTER .. is ready, if that is later" */
    private static void tickBecomesTheEarliestOne() {
        for (int passed = 19; passed <= 21; passed++) {
            Openline x = new Openline();
            x.master(10, 20);
            x.write(0, 20, 0, 0, false);
            x.write(0, 20, 0, 0, false);
            x.step();
            Due.same("t2 refused at once", x.bus(0), 110);
            x.pass(passed);
            x.step();
            Due.same("t2 begun behind " + passed, x.bus(0), 110 + Math.max(20, passed) + 110);
        }
        Openline y = new Openline();
        y.master(10, 0);
        y.master(10, 500);
        y.master(10, 30);
        for (int master = 0; master < 3; master++) {
            y.write(master, 20, 0, 0, false);
            if (master > 0) {
                y.write(master, 20, 0, 0, false);
            }
        }
        y.step();
        Due.same("t2 one whose script is empty does not count", y.step(), 4);
        Due.same("t2 the earliest of the others", y.bus(0), 110 + 30 + 110);
    }

    /** "All MASTERS with a SCRIPT that is not empty and who are ready by TICK are IN" */
    private static void readyByTick() {
        for (int passed = 9; passed <= 12; passed++) {
            Openline x = new Openline();
            x.master(10, 10);
            x.master(10, 11);
            for (int i = 0; i < 2; i++) {
                x.write(0, 20, 0, 0, false);
                x.write(1, 20, 0, 0, false);
            }
            Due.same("t2 both ready at 0", x.step(), 3);
            x.pass(passed);
            int want = passed >= 11 ? 3 : 1;
            Due.same("t2 ready by then, passed " + passed, x.would(0), want);
            Due.same("t2 ready by then, passed " + passed, x.step(), want);
        }
    }

    private static void readyAtZeroAtFirst() {
        Openline x = new Openline();
        x.master(10, 500);
        x.write(0, 20, 0, 0, false);
        Due.same("t2 the gap is behind an occupation, not ahead of the first", x.step(), 1);
        Due.same("t2 begun at 0", x.bus(0), 110);
        Due.same("t2 the gap behind it", x.ofMaster(0, 5), 610);
        x.pass(10000);
        Due.same("t2 ready when it was", x.ofMaster(0, 5), 610);
    }

    // ---- 2. BIDDING

    private static void bidding() {
        for (int bit = 0; bit < 8; bit++) {
            oneBitDecides(bit);
        }
        leastAndGreatestBytes();
        threeLoseOneByOne();
        writesAndReads();
        checkedAndNot(true);
        checkedAndNot(false);
        allCheckedOrNone();
        byteAheadOfTheCheck();
        whoLostKeepsItsTransfer();
    }

    /** "if one of these sends 0, all who send 1 LOSE" */
    private static void oneBitDecides(int bit) {
        int one = 0x55 | 1 << bit;
        int zero = 0x55 & ~(1 << bit);
        if (bit < 7) {
            Due.same("t2 bit " + bit + " of an address", winnersOf(one, zero, 1, 1, 1, 1), 2);
        }
        Due.same("t2 bit " + bit + " of a register", winnersOf(20, 20, zero, one, 1, 1), 1);
        Due.same("t2 bit " + bit + " of a byte", winnersOf(20, 20, 1, 1, one, zero), 2);
        int below = (1 << bit) - 1;
        Due.same("t2 bit " + bit + " counts more than all behind it", winnersOf(20, 20, 1, 1, 1 << bit, below), 2);
    }

    private static void leastAndGreatestBytes() {
        Due.same("t2 addresses 0 and 127", winnersOf(127, 0, 1, 1, 1, 1), 2);
        Due.same("t2 addresses 127 both", winnersOf(127, 127, 1, 1, 1, 1), 3);
        Due.same("t2 registers 0 and 255", winnersOf(20, 20, 0, 255, 1, 1), 1);
        Due.same("t2 registers 255 both", winnersOf(20, 20, 255, 255, 1, 2), 3);
        Due.same("t2 bytes 0 and 255", winnersOf(20, 20, 1, 1, 255, 0), 2);
        Due.same("t2 bytes 255 both", winnersOf(20, 20, 1, 1, 255, 255), 3);
        Due.same("t2 bytes 0 both", winnersOf(20, 20, 0, 0, 0, 0), 3);
    }

    private static int winnersOf(int address0, int address1, int register0, int register1, int value0, int value1) {
        Openline x = busOf(20);
        x.master(10, 0);
        x.master(10, 0);
        x.write(0, address0, register0, value0, false);
        x.write(1, address1, register1, value1, false);
        int would = x.would(0);
        int winners = x.step();
        Due.same("t2 as it would", would, winners);
        Due.same("t2 the other one's loss", losses(x, 0) + 2 * losses(x, 1), 3 ^ winners);
        return winners;
    }

    private static void threeLoseOneByOne() {
        Openline x = busOf(20);
        for (int i = 0; i < 3; i++) {
            x.master(10 + 10 * i, 0);
        }
        x.write(2, 20 + 64, 0, 0, false);
        x.write(1, 21, 0, 0, false);
        x.write(0, 20, 1, 1, false);
        Due.same("t2 by the first and by the last bit", x.step(), 1);
        Due.same("t2 both lost in the first byte", x.bus(0), 30 + 270 + 90 + 90 + 10);
        Due.same("t2 then the other two", x.step(), 2);
        Due.same("t2 and the last one alone", x.step(), 4);
        Due.same("t2 losses", losses(x, 0) * 100 + losses(x, 1) * 10 + losses(x, 2), 12);
    }

    /** "Behind the REGISTER and its answer, where some have a WRITE and some a READ, those with a READ LOSE." */
    private static void writesAndReads() {
        for (int register = 15; register <= 16; register++) {
            Openline x = busOf(20);
            for (int i = 0; i < 3; i++) {
                x.master(10, 0);
            }
            x.read(0, 20, register, true);
            x.write(1, 20, register, 255, false);
            x.read(2, 20, register, false);
            Due.same("t2 reads lose, unless it is refused: register " + register, x.step(), register < 16 ? 2 : 7);
            Due.same("t2 both reads wait", waiting(x, 0) + waiting(x, 2), register < 16 ? 2 : 0);
            Due.same("t2 nothing is lost where all are refused", losses(x, 0) + losses(x, 1) + losses(x, 2),
                register < 16 ? 2 : 0);
        }
        Openline y = new Openline();
        y.master(10, 0);
        y.master(10, 0);
        y.read(0, 20, 1, false);
        y.write(1, 20, 1, 1, true);
        Due.same("t2 nor where nobody answers", y.step(), 3);
        Due.same("t2 no loss", losses(y, 0) + losses(y, 1), 0);
        Openline z = busOf(20);
        z.master(10, 0);
        z.master(10, 0);
        z.write(0, 20, 2, 0, false);
        z.read(1, 20, 1, false);
        Due.same("t2 a read with the smaller register stays", z.step(), 2);
    }

    /** "Where some .. are CHECKED and some not, those who are not CHECKED are at their end: they LOSE." */
    private static void checkedAndNot(boolean isWrite) {
        Openline x = busOf(20);
        for (int i = 0; i < 3; i++) {
            x.master(10, 0);
        }
        add(x, 0, isWrite ? WRITE : READ, 20, 1);
        add(x, 1, isWrite ? CHECKED_WRITE : CHECKED_READ, 20, 1);
        add(x, 2, isWrite ? CHECKED_WRITE : CHECKED_READ, 20, 1);
        Due.same("t2 the checked ones stay", x.step(), 6);
        Due.same("t2 the other one lost", losses(x, 0), 1);
        Due.same("t2 and has no result", x.ofMaster(0, 3), 0);
        Due.same("t2 it comes later", x.step(), 1);
        Due.same("t2 with its result", x.result(0, 0), isWrite ? 256 : 0x5a & x.register(0, 1));
    }

    private static void allCheckedOrNone() {
        for (int kind = WRITE; kind <= CHECKED_READ; kind++) {
            Openline x = busOf(20);
            x.master(10, 0);
            x.master(10, 0);
            add(x, 0, kind, 20, 1);
            add(x, 1, kind, 20, 1);
            Due.same("t2 nobody loses among the same, kind " + kind, x.step(), 3);
            Due.same("t2 no loss", losses(x, 0) + losses(x, 1), 0);
            Due.same("t2 results of both", x.result(0, 0), x.result(1, 0));
            Due.same("t2 one occupation", x.bus(1), 1);
        }
    }

    /** The BYTE is bid for ahead of the CHECK: so one that is not CHECKED wins by it. */
    private static void byteAheadOfTheCheck() {
        Openline x = busOf(20);
        x.master(10, 0);
        x.master(50, 0);
        x.write(0, 20, 1, 0x7f, false);
        x.write(1, 20, 1, 0x80, true);
        Due.same("t2 the smaller byte wins without a check", x.step(), 1);
        Due.same("t2 no check behind it", x.trace(), "S28+01+7f+P");
        Due.same("t2 who is checked counts in the byte", x.bus(0), 50 + 3 * 450 + 10);
    }

    private static void whoLostKeepsItsTransfer() {
        Openline x = busOf(20);
        x.master(10, 5);
        x.master(10, 6);
        x.write(0, 20, 1, 1, true);
        x.write(1, 20, 1, 3, true);
        x.write(1, 20, 2, 4, false);
        x.step();
        Due.same("t2 it waits", waiting(x, 1), 2);
        int end = x.bus(0);
        Due.same("t2 gap ticks behind the end in which it lost", x.ofMaster(1, 5), end + 6);
        Due.same("t2 again", x.step(), 2);
        Due.same("t2 it is the same one", x.trace().substring(0, 10), "S28+01+03+");
        Due.same("t2 a loss is counted once", losses(x, 1), 1);
    }

    // ---- 2. answers and results

    private static void answers() {
        busyAsTheOccupationBegins();
        theSameOnesAnswerTwice();
        registerSixteenIsRefused();
        whoLostIsNotRefused();
        andOfAllWhoAnswered();
        leastAndGreatestResults();
        writtenIntoAllOnce();
    }

    /** "are not BUSY as the OCCUPATION begins" */
    private static void busyAsTheOccupationBegins() {
        for (int gap = 39; gap <= 41; gap++) {
            Openline x = new Openline();
            x.target(20, 0, 0, 40);
            x.master(10, gap);
            x.write(0, 20, 1, 1, false);
            x.write(0, 20, 1, 2, false);
            x.step();
            x.step();
            Due.same("t2 begun " + gap + " behind, busy for 40", x.result(0, 1), gap < 40 ? -1 : 256);
            Due.same("t2 written or not", x.register(0, 1), gap < 40 ? 1 : 2);
            Due.same("t2 busy from the last write on", x.ofTarget(0, 7), gap < 40 ? 0 : 1);
        }
        Openline y = new Openline();
        y.target(20, 0, 0, 40);
        y.target(20, 0, 0, 0);
        y.master(10, 0);
        y.write(0, 20, 1, 1, false);
        y.read(0, 20, 1, false);
        y.run();
        Due.same("t2 the one that is not busy answers alone", y.result(0, 1), 1);
    }

    private static void theSameOnesAnswerTwice() {
        Openline x = new Openline();
        x.target(20, 0, 20, 200);
        x.target(20, 0, 0, 0);
        x.master(100, 0);
        x.put(0, 1, 0);
        x.put(1, 1, 255);
        x.write(0, 20, 2, 1, false);
        x.step();
        x.pass(199);
        x.read(0, 20, 1, false);
        // the busy time of the first one ends within this one: it does not come in behind the second address
        x.step();
        Due.same("t2 behind the second one the same ones", x.result(0, 1), 255);
        x.read(0, 20, 1, false);
        x.step();
        Due.same("t2 then both", x.result(0, 2), 0);
    }

    private static void registerSixteenIsRefused() {
        for (int register = 14; register <= 17; register++) {
            for (int kind = WRITE; kind <= CHECKED_READ; kind++) {
                Openline x = busOf(20);
                x.master(10, 0);
                add(x, 0, kind, 20, register);
                x.step();
                boolean isRefused = register >= 16;
                Due.same("t2 register " + register + " kind " + kind, x.result(0, 0) == -1, isRefused);
                Due.same("t2 counted", x.bus(6), isRefused ? 1 : 0);
                Due.same("t2 at their end with a stop", x.trace().endsWith("-P"), isRefused || kind >= READ);
                Due.same("t2 gone from the script", waiting(x, 0), 0);
            }
        }
    }

    private static void whoLostIsNotRefused() {
        Openline x = new Openline();
        x.master(10, 0);
        x.master(10, 0);
        x.write(0, 20, 1, 1, false);
        x.write(1, 21, 1, 1, false);
        Due.same("t2 refused, the other one lost", x.step(), 1);
        Due.same("t2 one result", x.ofMaster(0, 3) + 10 * x.ofMaster(1, 3), 1);
        Due.same("t2 refused ones", x.bus(6), 1);
        Due.same("t2 one waits", waiting(x, 1), 1);
    }

    private static void andOfAllWhoAnswered() {
        int[] bytes = {0xfe, 0xfd, 0xfb, 0xf7, 0xef, 0xdf};
        int and = 255;
        for (int many = 1; many <= 6; many++) {
            Openline x = new Openline();
            and = 255;
            for (int i = 0; i < many; i++) {
                x.target(20, 0, 0, 0);
                x.put(i, 15, bytes[i]);
                and &= bytes[i];
            }
            x.master(10, 0);
            x.read(0, 20, 15, false);
            x.step();
            Due.same("t2 the and of " + many, x.result(0, 0), and);
        }
    }

    /** "of a WRITE 256, of a READ the BYTE, or NONE, if it was REFUSED" */
    private static void leastAndGreatestResults() {
        for (int value : new int[] {0, 1, 127, 128, 254, 255}) {
            Openline x = busOf(20);
            x.master(10, 0);
            x.write(0, 20, 0, value, false);
            x.read(0, 20, 0, false);
            x.read(0, 20, 0, true);
            x.read(0, 20, 16, true);
            x.run();
            Due.same("t2 of a write 256", x.result(0, 0), 256);
            Due.same("t2 of a read the byte", x.result(0, 1), value);
            Due.same("t2 of a checked one the byte, not the check", x.result(0, 2), value);
            Due.same("t2 of a refused one none", x.result(0, 3), -1);
        }
    }

    private static void writtenIntoAllOnce() {
        Openline x = busOf(20, 20, 20, 20, 20, 21);
        x.wire(1, 1);
        x.power(2, false);
        x.master(10, 0);
        x.master(10, 0);
        x.write(0, 20, 15, 7, false);
        x.write(1, 20, 15, 7, false);
        Due.same("t2 two masters write it together", x.step(), 3);
        for (int target = 0; target < 6; target++) {
            boolean isWritten = target == 0 || target == 3 || target == 4;
            Due.same("t2 into that of target " + target, x.register(target, 15), isWritten ? 7 : 0);
            Due.same("t2 and no other", x.register(target, 14), 0);
        }
        Due.same("t2 three bytes", x.bus(5), 3);
        x.write(0, 20, 16, 9, false);
        x.step();
        Due.same("t2 a refused one writes nothing", x.register(0, 15) + x.register(0, 0), 7);
    }

    // ---- 2. CHECK

    /** "if C is 128 or more, (2 * C modulo 256) XOR 7, otherwise 2 * C" */
    private static void checks() {
        Openline x = new Openline();
        Due.same("t2 c is 0 at first", x.check(0, 0, 0), 0);
        Due.same("t2 1 stays below 128 seven times: then 128 meets the edge", x.check(0, 0, 1), 7);
        Due.same("t2 128 meets it at once, and again behind", x.check(0, 0, 128), 0x89);
        Due.same("t2 255", x.check(0, 0, 255), 0xf3);
        for (int value = 0; value < 256; value++) {
            Due.same("t2 check of " + value, x.check(0, 0, value), step(value, 8));
        }
        Openline y = new Openline();
        for (int value = 0; value < 256; value++) {
            int want = step(step(step(value, 8) ^ value, 8) ^ (255 - value), 8);
            Due.same("t2 check of three, " + value, y.check(value, value, 255 - value), want);
        }
        checkOfAddressesToo();
    }

    private static int step(int from, int times) {
        int c = from;
        for (int i = 0; i < times; i++) {
            boolean isCarried = c > 127;
            c = 2 * c & 255;
            c = isCarried ? c ^ 0b111 : c;
        }
        return c;
    }

    /** "All BYTES from the first START on ahead of it count (ADDRESSES with their lowest bit, too)." */
    private static void checkOfAddressesToo() {
        Openline x = busOf(119);
        x.master(10, 0);
        x.put(0, 15, 255);
        x.read(0, 119, 15, true);
        x.step();
        int want = 0;
        for (int one : new int[] {238, 15, 239, 255}) {
            want = step(want ^ one, 8);
        }
        Due.same("t2 the check of a read", x.trace(), "See+0f+Sef+ff+" + String.format("%02x", want) + "-P");
        for (int value = 0; value < 4; value++) {
            x.write(0, 119, 15, value, true);
            x.step();
            Due.same("t2 c is 0 at first, each time", x.trace(),
                "See+0f+0" + value + "+" + String.format("%02x", x.check(238, 15, value)) + "+P");
        }
    }

    // ---- 2. TIME

    private static void time() {
        for (int stretch : new int[] {0, 1, 19, 20}) {
            for (int period : new int[] {2, 7, 8, 9, 199, 200}) {
                for (int kind = WRITE; kind <= CHECKED_READ; kind++) {
                    timeOf(kind, period, stretch);
                }
            }
        }
        greatestStretchOfThoseWhoAnswered();
        whoLosesCountsInThatPart();
    }

    private static void timeOf(int kind, int period, int stretch) {
        // load 25, rise 3: 8 ticks at least
        int bit = Math.max(8, period);
        int bytes = new int[] {3, 4, 4, 5}[kind];
        int edges = kind >= READ ? 3 : 2;
        String what = "t2 time of kind " + kind + ", period " + period + ", stretch " + stretch;
        Due.same(what, ticksOf(kind, period, stretch, 20, 15), (9 * bytes + edges) * bit + (bytes - 1) * stretch);
        Due.same(what + ", nobody answers: no stretch", ticksOf(kind, period, stretch, 21, 15), 11 * bit);
        Due.same(what + ", the register is refused: one", ticksOf(kind, period, stretch, 20, 16), 20 * bit + stretch);
    }

    private static int ticksOf(int kind, int period, int stretch, int address, int register) {
        Openline x = new Openline();
        x.target(20, 0, stretch, 0);
        x.master(period, 0);
        add(x, 0, kind, address, register);
        int would = x.would(1);
        x.step();
        Due.same("t2 as it would", would, x.bus(0));
        return x.bus(0);
    }

    private static void greatestStretchOfThoseWhoAnswered() {
        Openline x = new Openline();
        x.target(20, 0, 5, 0);
        x.target(20, 0, 9, 200);
        x.target(21, 0, 20, 0);
        x.master(30, 0);
        x.write(0, 20, 0, 0, false);
        x.step();
        int both = x.bus(0);
        Due.same("t2 the greatest of both", both, 29 * 30 + 2 * 9);
        x.write(0, 20, 0, 0, false);
        x.step();
        Due.same("t2 not of one that is busy", x.bus(0) - both, 29 * 30 + 2 * 5);
    }

    /** "Who LOSES behind a BYTE does not count in the next part any more." */
    private static void whoLosesCountsInThatPart() {
        Due.same("t2 in the address", ticksWithLoser(21, 0, 0), 50 * 10 + 19 * 10);
        Due.same("t2 in the register", ticksWithLoser(20, 1, 0), 50 * 19 + 10 * 10);
        Due.same("t2 in the byte", ticksWithLoser(20, 0, 1), 50 * 28 + 10);
        Due.same("t2 in the stop, as it stays", ticksWithLoser(20, 0, 0), 50 * 29);
        Openline x = busOf(20);
        x.master(10, 0);
        x.master(50, 0);
        x.write(0, 20, 0, 0, false);
        x.read(1, 20, 0, false);
        x.step();
        Due.same("t2 a read up to the answer behind the register", x.bus(0), 50 * 19 + 10 * 10);
    }

    private static int ticksWithLoser(int address, int register, int value) {
        Openline x = busOf(20);
        x.master(10, 0);
        x.master(50, 0);
        x.write(0, 20, 0, 0, false);
        x.write(1, address, register, value, false);
        x.step();
        return x.bus(0);
    }

    // ---- 3. Addresses

    private static void addresses() {
        clashing();
        handOutByIds();
        oneIdForAll();
        smallestAddressThatNobodyHas();
        handOutNobody();
        handOutTakesTime();
    }

    /** "if two or more that LISTEN have one ADDRESS" */
    private static void clashing() {
        for (int many = 1; many <= 6; many++) {
            Openline x = new Openline();
            for (int i = 0; i < many; i++) {
                x.target(119, 0, 0, 0);
            }
            for (int i = 0; i < many; i++) {
                Due.same("t3 " + many + " with one address", x.ofTarget(i, 9), many > 1 ? 1 : 0);
            }
        }
        Openline y = busOf(118, 119, 119, 0, 0);
        Due.same("t3 the address beside it does not clash", y.ofTarget(0, 9), 0);
        Due.same("t3 who has none does not clash", y.ofTarget(3, 9) + y.ofTarget(4, 9), 0);
        y.wire(2, 3);
        Due.same("t3 two, but one listens", y.ofTarget(1, 9) + y.ofTarget(2, 9), 0);
        y.open(8);
        Due.same("t3 both listen", y.ofTarget(1, 9) + y.ofTarget(2, 9), 2);
        y.power(1, false);
        Due.same("t3 one without power", y.ofTarget(1, 9) + y.ofTarget(2, 9), 0);
    }

    private static void handOutByIds() {
        for (int bit = 0; bit < 8; bit++) {
            Openline x = new Openline();
            x.target(0, 0x55 | 1 << bit, 0, 0);
            x.target(0, 0x55 & ~(1 << bit), 0, 0);
            Due.same("t3 both get one", x.handOut(), 2);
            Due.same("t3 who sends 0 first, bit " + bit, x.ofTarget(1, 0) * 100 + x.ofTarget(0, 0), 809);
        }
        Openline y = new Openline();
        y.target(0, 255, 0, 0);
        y.target(0, 0, 0, 0);
        Due.same("t3 both get one", y.handOut(), 2);
        Due.same("t3 0 ahead of 255", y.ofTarget(1, 0) * 100 + y.ofTarget(0, 0), 809);
        Openline z = new Openline();
        z.target(0, 255, 0, 0);
        Due.same("t3 255 alone", z.handOut(), 1);
        Due.same("t3 gets the first", z.ofTarget(0, 0), 8);
    }

    private static void oneIdForAll() {
        Openline x = busOf(0, 0, 0, 0, 0, 0);
        Due.same("t3 all six get one", x.handOut(), 6);
        for (int target = 0; target < 6; target++) {
            Due.same("t3 the same one", x.ofTarget(target, 0), 8);
            Due.same("t3 and clash", x.ofTarget(target, 9), 1);
        }
        Due.same("t3 it was one time", x.bus(0), 10 * 22);
    }

    private static void smallestAddressThatNobodyHas() {
        Openline x = busOf(8, 9, 11, 0, 0, 119);
        x.wire(0, 1);
        x.power(1, false);
        Due.same("t3 both of one id", x.handOut(), 2);
        Due.same("t3 10, as 8 and 9 are taken though nobody listens there", x.ofTarget(3, 0), 10);
        Due.same("t3 10 for both", x.ofTarget(4, 0), 10);
        Openline y = busOf(9, 0);
        y.handOut();
        Due.same("t3 8 is the first", y.ofTarget(1, 0), 8);
        Openline z = new Openline();
        z.target(8, 0, 0, 0);
        z.target(10, 0, 0, 0);
        for (int id = 1; id <= 3; id++) {
            z.target(0, id, 0, 0);
        }
        Due.same("t3 three", z.handOut(), 3);
        Due.same("t3 into the gap, then behind", z.ofTarget(2, 0) * 10000 + z.ofTarget(3, 0) * 100 + z.ofTarget(4, 0), 91112);
    }

    private static void handOutNobody() {
        Openline x = busOf(20, 0, 0);
        x.wire(1, 2);
        x.open(10);
        x.power(2, false);
        Due.same("t3 nobody to get one", x.handOut(), 0);
        Due.same("t3 no time", x.bus(0), 0);
        Due.same("t3 still none", x.ofTarget(1, 0) + x.ofTarget(2, 0), 0);
        x.open(4);
        Due.same("t3 its channel is open", x.handOut(), 1);
        Due.same("t3 8", x.ofTarget(1, 0), 8);
        Due.same("t3 again nobody", x.handOut(), 0);
    }

    /** "Each time takes ten bits of 2 * RISE and 2 ticks." */
    private static void handOutTakesTime() {
        for (int many = 1; many <= 6; many++) {
            Openline x = new Openline();
            for (int i = 0; i < many; i++) {
                x.target(0, 40 * i, 20, 0);
            }
            int rise = x.resistor(99);
            x.handOut();
            Due.same("t3 time of " + many, x.bus(0), many * 10 * (2 * rise + 2));
        }
    }

    // ---- 4. A line that is held

    private static void heldLine() {
        for (int value = 0; value < 256; value++) {
            for (int bits = 1; bits <= 8; bits++) {
                holdsTheRest(value, bits);
            }
        }
        stuckByOneOfMany();
        ownByteOfEach();
        timeOfCuts();
        nothingBeginsWhileStuck();
        whatBeginsLetsGo();
        timeOfClocks();
    }

    /** "the bits of its own BYTE, as it was then, that did not go yet, the next one first" */
    private static void holdsTheRest(int value, int bits) {
        Openline x = busOf(20);
        x.master(10, 0);
        x.put(0, 15, value);
        x.read(0, 20, 15, false);
        String what = "t4 byte " + value + " cut behind " + bits;
        Due.same(what, x.cut(0, bits), bits < 8 ? 1 : 0);
        Due.same(what, x.ofTarget(0, 8), 8 - bits);
        int zeros = 0;
        while (zeros < 8 - bits && (value & 1 << 7 - bits - zeros) == 0) {
            zeros++;
        }
        Due.same(what + ": stuck", x.bus(4), zeros > 0 ? 1 : 0);
        x.put(0, 15, 255 - value);
        Due.same(what + ": the byte as it was", x.bus(4), zeros > 0 ? 1 : 0);
        Due.same(what + ": clocks that free it", x.clocks(9), zeros);
        Due.same(what + ": bits left", x.ofTarget(0, 8), 8 - bits - zeros);
        Due.same(what + ": free", x.bus(4), 0);
    }

    private static void stuckByOneOfMany() {
        int[] bytes = {0xff, 0xff, 0xf7, 0xfb, 0xff, 0xff};
        Openline x = new Openline();
        for (int one : bytes) {
            x.target(20, 0, 0, 0);
        }
        for (int i = 0; i < bytes.length; i++) {
            x.put(i, 0, bytes[i]);
        }
        x.master(10, 0);
        x.read(0, 20, 0, false);
        Due.same("t4 all six hold", x.cut(0, 4), 63);
        Due.same("t4 stuck by the third", x.bus(4), 1);
        Due.same("t4 one clock", x.clocks(1), 1);
        Due.same("t4 stuck by the fourth", x.bus(4), 1);
        x.power(3, false);
        Due.same("t4 free without it", x.bus(4), 0);
        Due.same("t4 no clock", x.clocks(9), 0);
        Due.same("t4 three bits of another one", x.ofTarget(0, 8), 3);
    }

    private static void ownByteOfEach() {
        Openline x = busOf(20, 20, 21);
        x.master(10, 0);
        x.put(0, 0, 0b11111101);
        x.put(1, 0, 0b10111111);
        x.read(0, 20, 0, false);
        Due.same("t4 who answered hold", x.cut(0, 1), 3);
        Due.same("t4 the second's next bit is 0", x.clocks(9), 1);
        Due.same("t4 six bits of each", x.ofTarget(0, 8) + x.ofTarget(1, 8), 12);
        Due.same("t4 another address", x.ofTarget(2, 8), 0);
    }

    private static void timeOfCuts() {
        for (int stretch : new int[] {0, 20}) {
            for (int period : new int[] {7, 8, 9}) {
                int bit = Math.max(8, period);
                for (int bits = 1; bits <= 8; bits++) {
                    Due.same("t4 cut behind " + bits, ticksOfCut(period, stretch, 20, 15, bits),
                        (1 + 18 + 1 + 9 + bits) * bit + 2 * stretch);
                }
                Due.same("t4 nobody answers: with a stop", ticksOfCut(period, stretch, 21, 15, 8), 11 * bit);
                Due.same("t4 the register is refused: with a stop", ticksOfCut(period, stretch, 20, 16, 8),
                    20 * bit + stretch);
            }
        }
    }

    private static int ticksOfCut(int period, int stretch, int address, int register, int bits) {
        Openline x = new Openline();
        x.target(20, 0, stretch, 0);
        x.master(period, 13);
        x.master(200, 0);
        x.read(0, address, register, true);
        x.read(1, 8, 0, false);
        int holders = x.cut(0, bits);
        boolean isRefused = address != 20 || register > 15;
        Due.same("t4 who holds", holders, isRefused || bits == 8 ? 0 : 1);
        Due.same("t4 its result is refused", x.result(0, 0), -1);
        Due.same("t4 it is counted", x.bus(6), 1);
        Due.same("t4 the transfer is gone", waiting(x, 0), 0);
        Due.same("t4 nobody else bids", waiting(x, 1) * 10 + losses(x, 1), 10);
        Due.same("t4 bytes ahead of the one broken off", x.bus(5), isRefused ? address == 20 ? 2 : 1 : 3);
        Due.same("t4 ready its gap later", x.ofMaster(0, 5), x.bus(0) + 13);
        Due.same("t4 no occupation", x.bus(1), 0);
        return x.bus(0);
    }

    /** "No OCCUPATION, CUT or HANDING OUT begins then." */
    private static void nothingBeginsWhileStuck() {
        Openline x = busOf(20, 0);
        x.master(10, 0);
        x.put(0, 0, 0b10111111);
        for (int i = 0; i < 3; i++) {
            x.read(0, 20, 0, false);
        }
        x.cut(0, 1);
        Due.refused("t4 no step", x, IllegalStateException.class, x::step);
        Due.refused("t4 no run", x, IllegalStateException.class, x::run);
        Due.refused("t4 no cut", x, IllegalStateException.class, () -> x.cut(0, 1));
        Due.refused("t4 no handing out", x, IllegalStateException.class, x::handOut);
        Due.same("t4 nothing would begin", x.would(0) + x.would(1), -2);
        Due.same("t4 a clock frees it", x.clocks(1), 1);
        Due.same("t4 six bits are held", x.ofTarget(0, 8), 6);
        Due.same("t4 but it begins", x.step(), 1);
    }

    /** "As an OCCUPATION, CUT or HANDING OUT begins .., no TARGET HOLDS any more." */
    private static void whatBeginsLetsGo() {
        for (int kind = 0; kind < 5; kind++) {
            Openline x = busOf(20);
            x.master(10, 0);
            x.put(0, 0, 255);
            x.read(0, 20, 0, false);
            Due.same("t4 it holds", x.cut(0, 1), 1);
            if (kind < 3) {
                x.read(0, 21, 0, false);
            }
            int all = kind == 0 ? x.step() : kind == 1 ? x.run() : kind == 2 ? x.cut(0, 1) : kind == 3 ? x.handOut() : x.run();
            Due.same("t4 it began or not, kind " + kind, all, kind < 2 ? 1 : 0);
            Due.same("t4 it let go or not, kind " + kind, x.ofTarget(0, 8), kind < 4 ? 0 : 7);
        }
    }

    /** "A CLOCK .. takes 2 * RISE and 2 ticks" */
    private static void timeOfClocks() {
        for (int many = 1; many <= 9; many++) {
            Openline x = busOf(20);
            x.master(10, 0);
            x.read(0, 20, 0, false);
            x.cut(0, 1);
            int before = x.bus(0);
            int rise = x.resistor(10 * many);
            int clocks = Math.min(7, many);
            Due.same("t4 no more than the bits", x.clocks(many), clocks);
            Due.same("t4 their time", x.bus(0) - before, clocks * (2 * rise + 2));
            Due.same("t4 counted", x.bus(7), clocks);
            Due.same("t4 bits left", x.ofTarget(0, 8), 7 - clocks);
            Due.same("t4 stuck with one left", x.bus(4), clocks < 7 ? 1 : 0);
        }
    }

    // ---- 5. The analyser

    private static void analyser() {
        for (int all = 0; all < 16; all++) {
            eachChangeOfLevels(all >> 3, all >> 2 & 1, all >> 1 & 1, all & 1);
        }
        for (int first = 0; first < 4; first++) {
            theFirstSample(first >> 1, first & 1);
        }
        bitsThatDoNotCount();
        whatIsNotWholeIsLost();
        everyByteAndAnswer();
    }

    /** Behind a START and eight BITS of 0 the next change tells by TEXT what it is. */
    private static void eachChangeOfLevels(int clock, int data, int nextClock, int nextData) {
        Openline x = new Openline();
        x.sample(1, 0);
        for (int bit = 0; bit < 8 - clock; bit++) {
            x.sample(0, 0);
            x.sample(1, 0);
        }
        x.sample(0, data);
        x.sample(clock, data);
        x.sample(clock, data);
        String ahead = clock == 1 && data == 1 ? "01" : "00";
        Due.same("t5 eight bits", x.text(), "S");
        x.sample(nextClock, nextData);
        String want = "S";
        if (clock == 0 && nextClock == 1) {
            want = "S00" + (nextData == 0 ? "+" : "-");
        } else if (clock == 1 && nextClock == 1 && data != nextData) {
            want = nextData == 0 ? "SS" : "SP";
        }
        String what = "t5 from " + clock + data + " to " + nextClock + nextData;
        Due.same(what, x.text(), want);
        if (want.equals("S")) {
            x.sample(0, nextData);
            x.sample(1, nextData);
            Due.same(what + " does nothing", x.text(), "S" + ahead + (nextData == 0 ? "+" : "-"));
        }
    }

    /** "1 and 1 at first" */
    private static void theFirstSample(int clock, int data) {
        Openline x = new Openline();
        boolean isStart = clock == 1 && data == 0;
        Due.same("t5 first " + clock + data, x.sample(clock, data), isStart ? 1 : 0);
        Due.same("t5 first " + clock + data, x.text(), isStart ? "S" : "");
    }

    private static void nineBits(Openline x, int value, int answer) {
        bits(x, 2 * value + answer, 9);
    }

    /** Some bits, the clock low behind them, the data 0. */
    private static void bits(Openline x, int value, int many) {
        for (int bit = many - 1; bit >= 0; bit--) {
            x.sample(0, value >> bit & 1);
            x.sample(1, value >> bit & 1);
        }
        x.sample(0, value & 1);
        x.sample(0, 0);
    }

    private static void start(Openline x) {
        x.sample(0, 1);
        x.sample(1, 1);
        x.sample(1, 0);
        x.sample(0, 0);
    }

    private static void stop(Openline x) {
        x.sample(1, 0);
        x.sample(1, 1);
        x.sample(0, 1);
        x.sample(0, 0);
    }

    /** "BITS ahead of the first START, or behind a STOP, do not count." */
    private static void bitsThatDoNotCount() {
        Openline x = new Openline();
        nineBits(x, 0xff, 1);
        Due.same("t5 ahead of the first start", x.text(), "");
        bits(x, 0x1f, 5);
        start(x);
        nineBits(x, 0x01, 0);
        Due.same("t5 none of them counts later", x.text(), "S01+");
        stop(x);
        nineBits(x, 0xff, 1);
        Due.same("t5 behind a stop", x.text(), "S01+P");
        stop(x);
        nineBits(x, 0xff, 1);
        Due.same("t5 behind a stop without a start", x.text(), "S01+PP");
        bits(x, 0x1f, 5);
        start(x);
        nineBits(x, 0x80, 1);
        Due.same("t5 none of them counts later", x.text(), "S01+PPS80-");
        Openline y = new Openline();
        y.sample(0, 0);
        stop(y);
        nineBits(y, 0x80, 1);
        Due.same("t5 a stop ahead of the first start", y.text(), "P");
    }

    /** "what is not whole as a START or a STOP comes is lost" */
    private static void whatIsNotWholeIsLost() {
        for (int many = 0; many <= 8; many++) {
            Openline x = new Openline();
            start(x);
            bits(x, (1 << many) - 1, many);
            start(x);
            nineBits(x, 0x5a, 0);
            // the rising clock ahead of a start or a stop is a bit, too
            String first = many == 8 ? "ff-" : "";
            Due.same("t5 start behind " + many + " bits", x.text(), "S" + first + "S5a+");
            Openline y = new Openline();
            start(y);
            bits(y, (1 << many) - 1, many);
            stop(y);
            start(y);
            nineBits(y, 0x5a, 1);
            Due.same("t5 stop behind " + many + " bits", y.text(), "S" + (many == 8 ? "ff+" : "") + "PS5a-");
        }
    }

    private static void everyByteAndAnswer() {
        for (int nine = 0; nine < 512; nine++) {
            Openline x = new Openline();
            start(x);
            nineBits(x, nine >> 1, nine & 1);
            nineBits(x, 255 - (nine >> 1), 1 - (nine & 1));
            String want = String.format("S%02x%s%02x%s", nine >> 1, nine % 2 == 0 ? "+" : "-",
                255 - (nine >> 1), nine % 2 == 0 ? "-" : "+");
            Due.same("t5 a byte behind a byte", x.text(), want);
        }
    }
}
