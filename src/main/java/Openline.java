import java.util.ArrayList;

/** A bus of two wires and those who talk on it. README.md says how to use it. */
public final class Openline {
    private static final int NONE = -1;
    private static final int WRITTEN = 256;
    private static final int NEVER = 2147483647;
    private static final int NO_RESULT = 999;

    private static final int MOST_TARGETS = 6;
    private static final int MOST_MASTERS = 3;
    private static final int MOST_TRANSFERS = 8;
    private static final int MOST_RESULTS = 512;
    private static final int FULL_TEXT = 100;

    private static final int REGISTERS = 16;
    private static final int FIRST_ADDRESS = 8;
    private static final int LAST_ADDRESS = 119;
    private static final int GREATEST_RESISTOR = 99;
    private static final int POLYNOMIAL = 7;

    private static final int BITS_OF_BYTE = 9;
    private static final int BITS_OF_HANDING_OUT = 10;

    private static final int ADDRESS_PART = 0;
    private static final int REGISTER_PART = 1;
    private static final int VALUE_PART = 2;

    private static final int IS_WRITE = 1;
    private static final int IS_CHECKED = 2;

    private static final String DIGITS = "0123456789abcdef";

    private static final int TARGET_FACTS = 10;
    private static final int MASTER_FACTS = 7;
    private static final int BUS_FACTS = 10;
    private static final int RESULTS_IN_DIGEST = 3;

    private final Parts parts;
    private final ArrayList<Master> masters;
    private final Analyser analyser;
    private Occupation last;
    private Occupation spare;
    private int tick;
    private int occupations;
    private int bytesEver;
    private int clocksEver;

    public Openline() {
        Parts noParts = new Parts();
        ArrayList<Master> noMasters = new ArrayList<>();
        parts = noParts;
        masters = noMasters;
        analyser = new Analyser();
        last = new Occupation(noParts, noMasters);
        spare = new Occupation(noParts, noMasters);
    }

    // ---- parts

    public int target(int address, int id, int stretch, int delay)
            throws IllegalArgumentException, IllegalStateException {
        demand(isAddress(address) && isByte(id) && isWithin(stretch, 0, 20) && isWithin(delay, 0, 200));
        demandState(parts.targets.size() < MOST_TARGETS);
        parts.targets.add(new Target(address, id, stretch, delay));
        return parts.targets.size() - 1;
    }

    public int wire(int target, int channel) throws IndexOutOfBoundsException, IllegalArgumentException {
        Target one = targetAt(target);
        demand(isWithin(channel, 0, 3));
        int before = one.channel;
        one.channel = channel;
        return before;
    }

    public int open(int channels) throws IllegalArgumentException {
        demand(isWithin(channels, 0, 14) && (channels & 1) == 0);
        parts.openChannels = channels;
        return parts.listeners();
    }

    public boolean power(int target, boolean isOn) throws IndexOutOfBoundsException {
        Target one = targetAt(target);
        boolean had = one.hasPower;
        one.hasPower = isOn;
        if (!isOn) {
            one.forget();
        }
        return had;
    }

    public int put(int target, int register, int value)
            throws IndexOutOfBoundsException, IllegalArgumentException, IllegalStateException {
        Target one = targetAt(target);
        demandIndex(isRegister(register));
        demand(isByte(value));
        demandState(one.hasPower);
        int before = one.byteIn(register);
        one.store(register, value);
        return before;
    }

    public int resistor(int resistor) throws IllegalArgumentException {
        demand(isWithin(resistor, 1, GREATEST_RESISTOR));
        parts.resistor = resistor;
        return parts.riseWith(parts.resistor);
    }

    public int master(int period, int gap) throws IllegalArgumentException, IllegalStateException {
        demand(isPeriod(period) && isWithin(gap, 0, 500));
        demandState(masters.size() < MOST_MASTERS);
        masters.add(new Master(period, gap));
        return masters.size() - 1;
    }

    // ---- scripts and time

    public int write(int master, int address, int register, int value, boolean isChecked)
            throws IndexOutOfBoundsException, IllegalArgumentException, IllegalStateException {
        Master one = masterAt(master);
        demand(isWithin(address, 0, 127) && isByte(register) && isByte(value));
        demandState(one.script.size() < MOST_TRANSFERS);
        one.script.add(new Transfer(address, register, value, IS_WRITE | (isChecked ? IS_CHECKED : 0)));
        return one.script.size();
    }

    public int read(int master, int address, int register, boolean isChecked)
            throws IndexOutOfBoundsException, IllegalArgumentException, IllegalStateException {
        Master one = masterAt(master);
        demand(isWithin(address, 0, 127) && isByte(register));
        demandState(one.script.size() < MOST_TRANSFERS);
        one.script.add(new Transfer(address, register, 0, isChecked ? IS_CHECKED : 0));
        return one.script.size();
    }

    public int step() throws IllegalStateException {
        demandState(!areScriptsEmpty() && !parts.isStuck());
        occupy();
        return last.in;
    }

    public int run() throws IllegalStateException {
        demandState(!parts.isStuck());
        int many = 0;
        // each OCCUPATION ends one TRANSFER at least, so there are never more than these
        while (many < MOST_MASTERS * MOST_TRANSFERS && !areScriptsEmpty()) {
            occupy();
            many++;
        }
        return many;
    }

    public int cut(int master, int bits)
            throws IndexOutOfBoundsException, IllegalArgumentException, IllegalStateException {
        Master one = masterAt(master);
        demand(isWithin(bits, 1, 8));
        demandState(one.isReading() && !parts.isStuck());
        parts.letGo();
        spare.prepare(1 << master);
        spare.breakOff(tick, bits);
        tick += spare.ticks;
        bytesEver += spare.bytes;
        if (!spare.isRefused) {
            parts.hold(spare.answered, spare.register, 8 - bits);
        }
        one.finish(NONE, tick);
        return parts.holders();
    }

    public int clocks(int many) throws IllegalArgumentException {
        demand(isWithin(many, 1, 9));
        int done = 0;
        while (done < many && parts.isStuck()) {
            parts.clock();
            tick += parts.shortestBitWith(parts.resistor);
            done++;
        }
        clocksEver += done;
        return done;
    }

    public int handOut() throws IllegalStateException {
        demandState(!parts.isStuck());
        parts.letGo();
        int all = 0;
        for (int time = 0; time < MOST_TARGETS; time++) {
            int got = parts.handOutOnce();
            if (got > 0) {
                all += got;
                tick += BITS_OF_HANDING_OUT * parts.shortestBitWith(parts.resistor);
            }
        }
        return all;
    }

    public int pass(int ticks) throws IllegalArgumentException {
        demand(isWithin(ticks, 1, 10000));
        tick += ticks;
        return tick;
    }

    public int sample(int clock, int data) throws IllegalArgumentException, IllegalStateException {
        demand(isWithin(clock, 0, 1) && isWithin(data, 0, 1));
        demandState(analyser.signs.length() < FULL_TEXT);
        analyser.take(clock, data);
        return analyser.signs.length();
    }

    // ---- what is asked

    public int ofTarget(int target, int what) throws IndexOutOfBoundsException, IllegalArgumentException {
        Target one = targetAt(target);
        demand(isWithin(what, 0, TARGET_FACTS - 1));
        return targetFact(one, what);
    }

    public int register(int target, int register) throws IndexOutOfBoundsException {
        Target one = targetAt(target);
        demandIndex(isRegister(register));
        return one.byteIn(register);
    }

    public int ofMaster(int master, int what) throws IndexOutOfBoundsException, IllegalArgumentException {
        Master one = masterAt(master);
        demand(isWithin(what, 0, MASTER_FACTS - 1));
        return masterFact(one, what);
    }

    public int result(int master, int nth) throws IndexOutOfBoundsException {
        Master one = masterAt(master);
        demandIndex(one.hasResult(nth));
        return one.resultAt(nth);
    }

    public int bus(int what) throws IllegalArgumentException {
        demand(isWithin(what, 0, BUS_FACTS - 1));
        return busFact(what);
    }

    public String trace() {
        return last.signs.toString();
    }

    public String text() {
        return analyser.signs.toString();
    }

    // ---- what would be (nothing is changed)

    public int check(int one, int two, int three) throws IllegalArgumentException {
        demand(isByte(one) && isByte(two) && isByte(three));
        return nextCheck(nextCheck(nextCheck(0, one), two), three);
    }

    public int scan(int low, int high) throws IllegalArgumentException {
        demand(isWithin(low, 0, 127) && isWithin(high, low, 127));
        int many = 0;
        for (int address = low; address <= high; address++) {
            if (parts.answering(address, tick) != 0) {
                many++;
            }
        }
        return many;
    }

    public int would(int what) throws IllegalArgumentException {
        demand(isWithin(what, 0, 1));
        return forecast(what);
    }

    public int fit(int period) throws IllegalArgumentException {
        demand(isPeriod(period));
        for (int resistor = GREATEST_RESISTOR; resistor >= 1; resistor--) {
            if (parts.shortestBitWith(resistor) <= period) {
                return resistor;
            }
        }
        return NONE;
    }

    public boolean isSound() {
        for (int i = 0; i < parts.targets.size(); i++) {
            if (!parts.targets.get(i).isRight()) {
                return false;
            }
        }
        for (int i = 0; i < masters.size(); i++) {
            if (!masters.get(i).isRight()) {
                return false;
            }
        }
        return true;
    }

    public long digest() {
        long d = 6203;
        for (int what = 0; what < BUS_FACTS; what++) {
            d = d * 31 + busFact(what);
        }
        for (int i = 0; i < parts.targets.size(); i++) {
            d = withTarget(d, parts.targets.get(i));
        }
        for (int i = 0; i < masters.size(); i++) {
            d = withMaster(d, masters.get(i));
        }
        d = d * 31 + analyser.signs.length();
        d = d * 31 + last.signs.length();
        d = d * 31 + forecast(0);
        d = d * 31 + forecast(1);
        return d * 31 + (isSound() ? 1 : 0);
    }

    // ---- what is refused

    private static void demand(boolean isRight) {
        if (!isRight) {
            throw new IllegalArgumentException("an argument is out of its range");
        }
    }

    private static void demandIndex(boolean isThere) {
        if (!isThere) {
            throw new IndexOutOfBoundsException("there is no such one");
        }
    }

    private static void demandState(boolean isPossible) {
        if (!isPossible) {
            throw new IllegalStateException("this cannot be done now");
        }
    }

    private Target targetAt(int target) {
        if (target < 0 || target >= parts.targets.size()) {
            throw new IndexOutOfBoundsException("there is no such target");
        }
        return parts.targets.get(target);
    }

    private Master masterAt(int master) {
        if (master < 0 || master >= masters.size()) {
            throw new IndexOutOfBoundsException("there is no such master");
        }
        return masters.get(master);
    }

    private static boolean isWithin(int number, int low, int high) {
        return number >= low && number <= high;
    }

    private static boolean isByte(int number) {
        return isWithin(number, 0, 255);
    }

    private static boolean isRegister(int number) {
        return isWithin(number, 0, REGISTERS - 1);
    }

    private static boolean isPeriod(int number) {
        return isWithin(number, 2, 200);
    }

    private static boolean isAddress(int number) {
        return number == 0 || isWithin(number, FIRST_ADDRESS, LAST_ADDRESS);
    }

    // ---- how an OCCUPATION comes about

    private boolean areScriptsEmpty() {
        for (int i = 0; i < masters.size(); i++) {
            if (!masters.get(i).script.isEmpty()) {
                return false;
            }
        }
        return true;
    }

    /** The TICK at which the next OCCUPATION begins. */
    private int beginning() {
        int earliest = NEVER;
        for (int i = 0; i < masters.size(); i++) {
            Master one = masters.get(i);
            if (!one.script.isEmpty()) {
                earliest = Math.min(earliest, one.ready);
            }
        }
        return Math.max(tick, earliest);
    }

    private int biddersAt(int begin) {
        int bidders = 0;
        for (int i = 0; i < masters.size(); i++) {
            Master one = masters.get(i);
            if (!one.script.isEmpty() && one.ready <= begin) {
                bidders |= 1 << i;
            }
        }
        return bidders;
    }

    /** Only where a SCRIPT is not empty and the bus is not STUCK. */
    private void occupy() {
        parts.letGo();
        tick = beginning();
        Occupation now = spare;
        now.prepare(biddersAt(tick));
        now.goThrough(tick);
        tick += now.ticks;
        occupations++;
        bytesEver += now.bytes;
        if (now.isWritten()) {
            parts.takeIn(now.answered, now.register, now.value, tick);
        }
        tellMasters(now);
        // two take turns, so that would() and cut() leave the last one's trace alone
        spare = last;
        last = now;
    }

    private void tellMasters(Occupation now) {
        int result = now.outcome();
        for (int i = 0; i < masters.size(); i++) {
            Master one = masters.get(i);
            if (isIn(now.in, i)) {
                one.finish(result, tick);
            } else if (isIn(now.lost, i)) {
                one.lose(tick);
            }
        }
    }

    private int forecast(int what) {
        if (parts.isStuck()) {
            return NONE;
        }
        if (areScriptsEmpty()) {
            return 0;
        }
        int begin = beginning();
        spare.prepare(biddersAt(begin));
        spare.goThrough(begin);
        return what == 0 ? spare.in : spare.ticks;
    }

    // ---- facts

    private int targetFact(Target one, int what) {
        switch (what) {
            case 0: return one.address;
            case 1: return one.id;
            case 2: return one.stretch;
            case 3: return one.delay;
            case 4: return one.channel;
            case 5: return one.hasPower ? 1 : 0;
            case 6: return parts.isListening(one) ? 1 : 0;
            case 7: return one.isBusy(tick) ? 1 : 0;
            case 8: return one.heldBits;
            default: return parts.isClashing(one) ? 1 : 0;
        }
    }

    private int masterFact(Master one, int what) {
        switch (what) {
            case 0: return one.period;
            case 1: return one.gap;
            case 2: return one.script.size();
            case 3: return one.resultCount;
            case 4: return one.losses;
            case 5: return one.ready;
            default: return parts.shortestBitWith(parts.resistor) <= one.period ? 1 : 0;
        }
    }

    private int busFact(int what) {
        switch (what) {
            case 0: return tick;
            case 1: return occupations;
            case 2: return parts.load();
            case 3: return parts.riseWith(parts.resistor);
            case 4: return parts.isStuck() ? 1 : 0;
            case 5: return bytesEver;
            case 6: return refusedEver();
            case 7: return clocksEver;
            case 8: return parts.openChannels;
            default: return parts.listeners();
        }
    }

    private int refusedEver() {
        int many = 0;
        for (int i = 0; i < masters.size(); i++) {
            many += masters.get(i).refused;
        }
        return many;
    }

    private long withTarget(long before, Target one) {
        long d = before;
        for (int what = 0; what < TARGET_FACTS; what++) {
            d = d * 31 + targetFact(one, what);
        }
        for (int register = 0; register < REGISTERS; register++) {
            d = d * 31 + one.byteIn(register);
        }
        return d;
    }

    private long withMaster(long before, Master one) {
        long d = before;
        for (int what = 0; what < MASTER_FACTS; what++) {
            d = d * 31 + masterFact(one, what);
        }
        for (int back = 1; back <= RESULTS_IN_DIGEST; back++) {
            int nth = one.resultCount - back;
            d = d * 31 + (one.hasResult(nth) ? one.resultAt(nth) : NO_RESULT);
        }
        return d;
    }

    // ---- what all share

    private static boolean isIn(int set, int number) {
        return (set >> number & 1) == 1;
    }

    /** The CHECK of some BYTES and one more, from the CHECK of those. */
    private static int nextCheck(int before, int one) {
        int check = before ^ one;
        for (int i = 0; i < 8; i++) {
            check = check >= 128 ? 2 * check % 256 ^ POLYNOMIAL : 2 * check;
        }
        return check;
    }

    private static void appendByte(StringBuilder signs, int one) {
        signs.append(DIGITS.charAt(one >> 4 & 15)).append(DIGITS.charAt(one & 15));
    }

    private static final class Target {
        final int id;
        final int stretch;
        final int delay;
        final int[] registers = new int[REGISTERS];
        int address;
        int channel;
        boolean hasPower = true;
        int busyUntil;
        int heldByte;
        int heldBits;

        Target(int address, int id, int stretch, int delay) {
            this.address = address;
            this.id = id;
            this.stretch = stretch;
            this.delay = delay;
        }

        int byteIn(int register) {
            return register >= 0 && register < registers.length ? registers[register] : 0;
        }

        void store(int register, int value) {
            if (register >= 0 && register < registers.length) {
                registers[register] = value;
            }
        }

        /** What goes with the power. */
        void forget() {
            for (int i = 0; i < registers.length; i++) {
                registers[i] = 0;
            }
            busyUntil = 0;
            heldBits = 0;
        }

        boolean isBusy(int tick) {
            return tick < busyUntil;
        }

        boolean isPullingDown() {
            return heldBits > 0 && (heldByte >> heldBits - 1 & 1) == 0;
        }

        boolean isRight() {
            for (int i = 0; i < registers.length; i++) {
                if (!isByte(registers[i])) {
                    return false;
                }
            }
            return isAddress(address) && (heldBits == 0 || hasPower);
        }
    }

    /** The TARGETS and what they hang on. */
    private static final class Parts {
        final ArrayList<Target> targets = new ArrayList<>();
        int openChannels;
        int resistor = 10;

        boolean isReached(Target one) {
            return one.hasPower && (one.channel == 0 || (openChannels >> one.channel & 1) == 1);
        }

        boolean isListening(Target one) {
            return isReached(one) && one.address != 0;
        }

        int listeners() {
            int many = 0;
            for (int i = 0; i < targets.size(); i++) {
                if (isListening(targets.get(i))) {
                    many++;
                }
            }
            return many;
        }

        int load() {
            int load = 10;
            for (int i = 0; i < targets.size(); i++) {
                if (isReached(targets.get(i))) {
                    load += 15;
                }
            }
            return load;
        }

        int riseWith(int other) {
            return (load() * other + 99) / 100;
        }

        int shortestBitWith(int other) {
            return 2 * riseWith(other) + 2;
        }

        /** The set of those who answer an ADDRESS in what begins at that tick. */
        int answering(int address, int tick) {
            int set = 0;
            for (int i = 0; i < targets.size(); i++) {
                Target one = targets.get(i);
                if (isListening(one) && one.address == address && !one.isBusy(tick)) {
                    set |= 1 << i;
                }
            }
            return set;
        }

        boolean isClashing(Target one) {
            if (!isListening(one)) {
                return false;
            }
            int sharing = 0;
            for (int i = 0; i < targets.size(); i++) {
                Target other = targets.get(i);
                if (isListening(other) && other.address == one.address) {
                    sharing++;
                }
            }
            return sharing > 1;
        }

        int greatestStretch(int set) {
            int greatest = 0;
            for (int i = 0; i < targets.size(); i++) {
                if (isIn(set, i)) {
                    greatest = Math.max(greatest, targets.get(i).stretch);
                }
            }
            return greatest;
        }

        int byteOfAll(int set, int register) {
            int all = 255;
            for (int i = 0; i < targets.size(); i++) {
                if (isIn(set, i)) {
                    all &= targets.get(i).byteIn(register);
                }
            }
            return all;
        }

        void takeIn(int set, int register, int value, int end) {
            for (int i = 0; i < targets.size(); i++) {
                if (isIn(set, i)) {
                    Target one = targets.get(i);
                    one.store(register, value);
                    one.busyUntil = end + one.delay;
                }
            }
        }

        void hold(int set, int register, int bits) {
            for (int i = 0; i < targets.size(); i++) {
                if (isIn(set, i)) {
                    Target one = targets.get(i);
                    one.heldByte = one.byteIn(register);
                    one.heldBits = bits;
                }
            }
        }

        void letGo() {
            for (int i = 0; i < targets.size(); i++) {
                targets.get(i).heldBits = 0;
            }
        }

        int holders() {
            int set = 0;
            for (int i = 0; i < targets.size(); i++) {
                if (targets.get(i).heldBits > 0) {
                    set |= 1 << i;
                }
            }
            return set;
        }

        boolean isStuck() {
            for (int i = 0; i < targets.size(); i++) {
                if (targets.get(i).isPullingDown()) {
                    return true;
                }
            }
            return false;
        }

        void clock() {
            for (int i = 0; i < targets.size(); i++) {
                Target one = targets.get(i);
                one.heldBits = Math.max(0, one.heldBits - 1);
            }
        }

        /** Gives one ADDRESS to all who have the ID that wins; how many these are (0: nobody is without). */
        int handOutOnce() {
            int id = winningId();
            int address = freeAddress();
            int got = 0;
            for (int i = 0; i < targets.size(); i++) {
                Target one = targets.get(i);
                if (isWithoutAddress(one) && one.id == id) {
                    one.address = address;
                    got++;
                }
            }
            return got;
        }

        boolean isWithoutAddress(Target one) {
            return isReached(one) && one.address == 0;
        }

        /** Where 0 wins bit by bit from the greatest one on, the smallest number is left. */
        int winningId() {
            int smallest = 255;
            for (int i = 0; i < targets.size(); i++) {
                Target one = targets.get(i);
                if (isWithoutAddress(one)) {
                    smallest = Math.min(smallest, one.id);
                }
            }
            return smallest;
        }

        int freeAddress() {
            for (int address = FIRST_ADDRESS; address <= LAST_ADDRESS; address++) {
                if (!isTaken(address)) {
                    return address;
                }
            }
            return 0;
        }

        boolean isTaken(int address) {
            for (int i = 0; i < targets.size(); i++) {
                if (targets.get(i).address == address) {
                    return true;
                }
            }
            return false;
        }
    }

    private static final class Transfer {
        final int address;
        final int register;
        final int value;
        final int traits;

        Transfer(int address, int register, int value, int traits) {
            this.address = address;
            this.register = register;
            this.value = value;
            this.traits = traits;
        }

        int byteOf(int part) {
            switch (part) {
                case ADDRESS_PART: return 2 * address;
                case REGISTER_PART: return register;
                default: return value;
            }
        }
    }

    private static final class Master {
        final int period;
        final int gap;
        final ArrayList<Transfer> script = new ArrayList<>();
        final int[] results = new int[MOST_RESULTS];
        int resultCount;
        int refused;
        int losses;
        int ready;

        Master(int period, int gap) {
            this.period = period;
            this.gap = gap;
        }

        boolean isReading() {
            return !script.isEmpty() && (script.get(0).traits & IS_WRITE) == 0;
        }

        boolean has(int trait) {
            return !script.isEmpty() && (script.get(0).traits & trait) != 0;
        }

        int byteOf(int part) {
            return script.isEmpty() ? 255 : script.get(0).byteOf(part);
        }

        void finish(int result, int end) {
            if (!script.isEmpty()) {
                script.remove(0);
            }
            if (resultCount < results.length) {
                results[resultCount] = result;
                resultCount++;
                refused += result == NONE ? 1 : 0;
            }
            ready = end + gap;
        }

        void lose(int end) {
            losses++;
            ready = end + gap;
        }

        boolean hasResult(int nth) {
            return nth >= 0 && nth < resultCount;
        }

        int resultAt(int nth) {
            return nth >= 0 && nth < results.length ? results[nth] : NONE;
        }

        boolean isRight() {
            for (int i = 0; i < resultCount; i++) {
                if (!isWithin(resultAt(i), NONE, WRITTEN)) {
                    return false;
                }
            }
            return script.size() <= MOST_TRANSFERS;
        }
    }

    /** The course of one OCCUPATION or CUT: it is worked out here, and changes nothing else. */
    private static final class Occupation {
        final Parts parts;
        final ArrayList<Master> masters;
        final StringBuilder signs = new StringBuilder();
        int shortestBit;
        int bit;
        int stretch;
        int in;
        int lost;
        int answered;
        int address;
        int register;
        int value;
        boolean isRefused;
        boolean isWrite;
        int ticks;
        int bytes;
        int check;

        Occupation(Parts parts, ArrayList<Master> masters) {
            this.parts = parts;
            this.masters = masters;
        }

        void prepare(int bidders) {
            signs.setLength(0);
            shortestBit = parts.shortestBitWith(parts.resistor);
            stretch = 0;
            in = bidders;
            lost = 0;
            answered = 0;
            address = 0;
            register = 0;
            value = 0;
            isRefused = false;
            isWrite = false;
            ticks = 0;
            bytes = 0;
            check = 0;
            keep(bidders);
        }

        void goThrough(int tick) {
            if (isAccepted(tick)) {
                int writers = those(IS_WRITE);
                isWrite = writers != 0;
                if (isWrite) {
                    keep(writers);
                    writeByte();
                } else {
                    readByte();
                }
            }
            stop();
        }

        void breakOff(int tick, int bits) {
            if (isAccepted(tick)) {
                addressAgain();
                ticks += bits * bit;
            } else {
                stop();
            }
        }

        boolean isWritten() {
            return isWrite && !isRefused;
        }

        int outcome() {
            if (isRefused) {
                return NONE;
            }
            return isWrite ? WRITTEN : value;
        }

        /** All up to the answer behind the REGISTER. */
        private boolean isAccepted(int tick) {
            start();
            address = bid(ADDRESS_PART) / 2;
            answered = parts.answering(address, tick);
            // only now: behind the first BYTE nobody stretches
            stretch = parts.greatestStretch(answered);
            answer(answered != 0);
            if (!isRefused) {
                register = bid(REGISTER_PART);
                answer(register < REGISTERS);
            }
            return !isRefused;
        }

        private void writeByte() {
            value = bid(VALUE_PART);
            answer(true);
            int checkers = those(IS_CHECKED);
            if (checkers != 0) {
                keep(checkers);
                send(check);
                answer(true);
            }
        }

        private void readByte() {
            addressAgain();
            value = parts.byteOfAll(answered, register);
            send(value);
            int checkers = those(IS_CHECKED);
            if (checkers != 0) {
                signs.append('+');
                keep(checkers);
                send(check);
            }
            signs.append('-');
        }

        private void addressAgain() {
            start();
            send(2 * address + 1);
            answer(true);
        }

        private void start() {
            ticks += bit;
            signs.append('S');
        }

        private void stop() {
            ticks += bit;
            signs.append('P');
        }

        /** Where 0 wins bit by bit from the greatest one on, the smallest BYTE goes over the bus. */
        private int bid(int part) {
            int smallest = 255;
            int winners = 0;
            for (int i = 0; i < masters.size(); i++) {
                if (isIn(in, i)) {
                    int one = masters.get(i).byteOf(part);
                    if (one < smallest) {
                        smallest = one;
                        winners = 0;
                    }
                    if (one == smallest) {
                        winners |= 1 << i;
                    }
                }
            }
            send(smallest);
            // behind it, as the part takes its time from those who LOSE in it, too
            keep(winners);
            return smallest;
        }

        private void send(int one) {
            ticks += BITS_OF_BYTE * bit + stretch;
            bytes++;
            check = nextCheck(check, one);
            appendByte(signs, one);
        }

        private void answer(boolean isTaken) {
            isRefused = !isTaken;
            signs.append(isTaken ? '+' : '-');
        }

        /** All others of those who are IN LOSE. */
        private void keep(int set) {
            lost |= in & ~set;
            in &= set;
            bit = shortestBit;
            for (int i = 0; i < masters.size(); i++) {
                if (isIn(in, i)) {
                    bit = Math.max(bit, masters.get(i).period);
                }
            }
        }

        private int those(int trait) {
            int set = 0;
            for (int i = 0; i < masters.size(); i++) {
                if (isIn(in, i) && masters.get(i).has(trait)) {
                    set |= 1 << i;
                }
            }
            return set;
        }
    }

    private static final class Analyser {
        final StringBuilder signs = new StringBuilder();
        int clock = 1;
        int data = 1;
        boolean isStarted;
        int bits;
        int shifted;

        void take(int newClock, int newData) {
            if (newClock == 1) {
                if (clock == 0) {
                    takeBit(newData);
                } else if (newData != data) {
                    takeEdge(newData);
                }
            }
            clock = newClock;
            data = newData;
        }

        private void takeEdge(int newData) {
            isStarted = newData == 0;
            bits = 0;
            shifted = 0;
            signs.append(isStarted ? 'S' : 'P');
        }

        private void takeBit(int bit) {
            if (!isStarted) {
                return;
            }
            bits++;
            if (bits < BITS_OF_BYTE) {
                shifted = 2 * shifted + bit;
                return;
            }
            appendByte(signs, shifted);
            signs.append(bit == 0 ? '+' : '-');
            bits = 0;
            shifted = 0;
        }
    }
}
