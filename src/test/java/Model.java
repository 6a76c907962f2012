import java.util.ArrayList;
import java.util.List;

/**
 * The document once more, as literally as it goes: those who bid send bit by bit, the ticks come bit by bit,
 * who holds keeps a row of bits. It shares no code with Openline; ModelTest compares both.
 */
final class Model {
    private static final class Chip {
        int address, id, stretch, delay, channel;
        int[] cells = new int[16];
        boolean powered = true;
        int end = Integer.MIN_VALUE;
        List<Integer> held = new ArrayList<>();
    }

    private static final class Job {
        int address, cell, value;
        boolean writes, checked;
    }

    private static final class Talker {
        int period, gap, losses, ready;
        List<Job> jobs = new ArrayList<>();
        List<Integer> results = new ArrayList<>();
    }

    /** What goes on while the bus is occupied. */
    private static final class Course {
        List<Integer> in = new ArrayList<>();
        List<Integer> lost = new ArrayList<>();
        List<Chip> answering = new ArrayList<>();
        List<Integer> bytes = new ArrayList<>();
        StringBuilder signs = new StringBuilder();
        int ticks;
        int result;
        boolean writes;
        int cell;
        int value;
    }

    private final List<Chip> chips = new ArrayList<>();
    private final List<Talker> talkers = new ArrayList<>();
    private final boolean[] open = new boolean[4];
    private int resistor = 10;
    private int tick;
    private int occupations;
    private int bytes;
    private int clocks;
    private String trace = "";
    private String text = "";
    private String pending = null;
    private int clockWire = 1;
    private int dataWire = 1;

    private static void argument(boolean right) {
        if (!right) {
            throw new IllegalArgumentException();
        }
    }

    private static void index(boolean right) {
        if (!right) {
            throw new IndexOutOfBoundsException();
        }
    }

    private static void state(boolean right) {
        if (!right) {
            throw new IllegalStateException();
        }
    }

    private Chip chip(int target) {
        index(target >= 0 && target < chips.size());
        return chips.get(target);
    }

    private Talker talker(int master) {
        index(master >= 0 && master < talkers.size());
        return talkers.get(master);
    }

    int target(int address, int id, int stretch, int delay) {
        argument((address == 0 || address > 7 && address < 120) && id >= 0 && id < 256
            && stretch >= 0 && stretch < 21 && delay >= 0 && delay < 201);
        state(chips.size() != 6);
        Chip chip = new Chip();
        chip.address = address;
        chip.id = id;
        chip.stretch = stretch;
        chip.delay = delay;
        chips.add(chip);
        return chips.indexOf(chip);
    }

    int wire(int target, int channel) {
        Chip chip = chip(target);
        argument(channel >= 0 && channel < 4);
        int before = chip.channel;
        chip.channel = channel;
        return before;
    }

    int open(int channels) {
        argument(channels == 0 || channels == 2 || channels == 4 || channels == 6 || channels == 8
            || channels == 10 || channels == 12 || channels == 14);
        for (int k = 1; k < 4; k++) {
            open[k] = channels / (int) Math.pow(2, k) % 2 == 1;
        }
        return bus(9);
    }

    int power(int target, boolean isOn) {
        Chip chip = chip(target);
        int had = chip.powered ? 1 : 0;
        chip.powered = isOn;
        if (!isOn) {
            chip.cells = new int[16];
            chip.end = Integer.MIN_VALUE;
            chip.held.clear();
        }
        return had;
    }

    int put(int target, int register, int value) {
        Chip chip = chip(target);
        index(register >= 0 && register < 16);
        argument(value >= 0 && value < 256);
        state(chip.powered);
        int before = chip.cells[register];
        chip.cells[register] = value;
        return before;
    }

    int resistor(int resistor) {
        argument(resistor > 0 && resistor < 100);
        this.resistor = resistor;
        return bus(3);
    }

    int master(int period, int gap) {
        argument(period > 1 && period < 201 && gap >= 0 && gap < 501);
        state(talkers.size() != 3);
        Talker talker = new Talker();
        talker.period = period;
        talker.gap = gap;
        talkers.add(talker);
        return talkers.indexOf(talker);
    }

    int write(int master, int address, int register, int value, boolean isChecked) {
        return add(talker(master), address, register, value, true, isChecked);
    }

    int read(int master, int address, int register, boolean isChecked) {
        return add(talker(master), address, register, 0, false, isChecked);
    }

    private int add(Talker talker, int address, int register, int value, boolean writes, boolean isChecked) {
        argument(address >= 0 && address < 128 && register >= 0 && register < 256 && value >= 0 && value < 256);
        state(talker.jobs.size() < 8);
        Job job = new Job();
        job.address = address;
        job.cell = register;
        job.value = value;
        job.writes = writes;
        job.checked = isChecked;
        talker.jobs.add(job);
        return talker.jobs.size();
    }

    private boolean idle() {
        return talkers.stream().allMatch(talker -> talker.jobs.isEmpty());
    }

    private int beginning() {
        int earliest = talkers.stream().filter(talker -> !talker.jobs.isEmpty())
            .mapToInt(talker -> talker.ready).min().getAsInt();
        return earliest > tick ? earliest : tick;
    }

    int step() {
        state(!idle() && bus(4) == 0);
        tick = beginning();
        chips.forEach(chip -> chip.held.clear());
        Course course = occupation(tick);
        tick += course.ticks;
        occupations++;
        bytes += course.bytes.size();
        trace = course.signs.toString();
        for (int master : course.in) {
            Talker talker = talkers.get(master);
            talker.jobs.remove(0);
            talker.results.add(course.result);
            talker.ready = tick + talker.gap;
        }
        for (int master : course.lost) {
            talkers.get(master).losses++;
            talkers.get(master).ready = tick + talkers.get(master).gap;
        }
        if (course.writes) {
            for (Chip chip : course.answering) {
                chip.cells[course.cell] = course.value;
                chip.end = tick + chip.delay;
            }
        }
        return set(course.in);
    }

    private static int set(List<Integer> numbers) {
        int set = 0;
        for (int number : numbers) {
            set += (int) Math.pow(2, number);
        }
        return set;
    }

    int run() {
        state(bus(4) == 0);
        int many = 0;
        while (!idle()) {
            step();
            many++;
        }
        return many;
    }

    private Job job(int master) {
        return talkers.get(master).jobs.get(0);
    }

    private Course occupation(int begin) {
        Course c = new Course();
        for (int master = 0; master < talkers.size(); master++) {
            if (!talkers.get(master).jobs.isEmpty() && talkers.get(master).ready <= begin) {
                c.in.add(master);
            }
        }
        if (!head(c, begin)) {
            return c;
        }
        List<Integer> writing = new ArrayList<>();
        for (int master : c.in) {
            if (job(master).writes) {
                writing.add(master);
            }
        }
        if (!writing.isEmpty()) {
            loseAllBut(c, writing);
            bid(c, 2);
            c.signs.append('+');
            c.writes = true;
            c.value = job(c.in.get(0)).value;
            c.result = 256;
            if (dropUnchecked(c)) {
                go(c, check(c.bytes));
                c.signs.append('+');
            }
        } else {
            again(c);
            c.result = 255;
            for (Chip chip : c.answering) {
                c.result &= chip.cells[c.cell];
            }
            go(c, c.result);
            if (dropUnchecked(c)) {
                c.signs.append('+');
                go(c, check(c.bytes));
            }
            c.signs.append('-');
        }
        bits(c, 1);
        c.signs.append('P');
        return c;
    }

    /** START, ADDRESS and REGISTER; false as it is REFUSED, then with its STOP. */
    private boolean head(Course c, int begin) {
        bits(c, 1);
        c.signs.append('S');
        bid(c, 0);
        int address = job(c.in.get(0)).address;
        for (Chip chip : chips) {
            if (listens(chip) && chip.address == address && begin >= chip.end) {
                c.answering.add(chip);
            }
        }
        boolean taken = !c.answering.isEmpty();
        c.signs.append(taken ? '+' : '-');
        if (taken) {
            bid(c, 1);
            c.cell = job(c.in.get(0)).cell;
            taken = c.cell < 16;
            c.signs.append(taken ? '+' : '-');
        }
        if (!taken) {
            c.result = -1;
            bits(c, 1);
            c.signs.append('P');
        }
        return taken;
    }

    private void again(Course c) {
        bits(c, 1);
        c.signs.append('S');
        go(c, 2 * job(c.in.get(0)).address + 1);
        c.signs.append('+');
    }

    private static void loseAllBut(Course c, List<Integer> staying) {
        for (int master : new ArrayList<>(c.in)) {
            if (!staying.contains(master)) {
                c.in.remove((Integer) master);
                c.lost.add(master);
            }
        }
    }

    private boolean dropUnchecked(Course c) {
        List<Integer> checked = new ArrayList<>();
        for (int master : c.in) {
            if (job(master).checked) {
                checked.add(master);
            }
        }
        if (checked.isEmpty()) {
            return false;
        }
        loseAllBut(c, checked);
        return true;
    }

    /** Bit by bit on a wire that is 0 as soon as one pulls it down. */
    private void bid(Course c, int part) {
        List<Integer> left = new ArrayList<>(c.in);
        int over = 0;
        for (int bit = 128; bit >= 1; bit /= 2) {
            int level = 1;
            for (int master : left) {
                level = Math.min(level, sent(job(master), part) / bit % 2);
            }
            List<Integer> on = new ArrayList<>();
            for (int master : left) {
                if (sent(job(master), part) / bit % 2 == level) {
                    on.add(master);
                }
            }
            left = on;
            over += level * bit;
        }
        go(c, over);
        loseAllBut(c, left);
    }

    private static int sent(Job job, int part) {
        return part == 0 ? 2 * job.address : part == 1 ? job.cell : job.value;
    }

    private void go(Course c, int one) {
        bits(c, 9);
        if (!c.bytes.isEmpty()) {
            c.ticks += c.answering.stream().mapToInt(chip -> chip.stretch).max().getAsInt();
        }
        c.bytes.add(one);
        c.signs.append(String.format("%02x", one));
    }

    private void bits(Course c, int many) {
        for (int i = 0; i < many; i++) {
            int longest = clockTicks();
            for (int master : c.in) {
                longest = Math.max(longest, talkers.get(master).period);
            }
            c.ticks += longest;
        }
    }

    private int clockTicks() {
        return 2 * bus(3) + 2;
    }

    int cut(int master, int bits) {
        Talker talker = talker(master);
        argument(bits >= 1 && bits <= 8);
        state(!talker.jobs.isEmpty() && !talker.jobs.get(0).writes && bus(4) == 0);
        chips.forEach(chip -> chip.held.clear());
        Course c = new Course();
        c.in.add(master);
        if (head(c, tick)) {
            again(c);
            bits(c, bits);
            for (Chip chip : c.answering) {
                for (int place = bits; place < 8; place++) {
                    chip.held.add(chip.cells[c.cell] / (128 >> place) % 2);
                }
            }
        }
        tick += c.ticks;
        bytes += c.bytes.size();
        talker.jobs.remove(0);
        talker.results.add(-1);
        talker.ready = tick + talker.gap;
        List<Integer> holding = new ArrayList<>();
        for (int target = 0; target < chips.size(); target++) {
            if (!chips.get(target).held.isEmpty()) {
                holding.add(target);
            }
        }
        return set(holding);
    }

    int clocks(int many) {
        argument(many >= 1 && many <= 9);
        int done = 0;
        while (done < many && bus(4) == 1) {
            for (Chip chip : chips) {
                if (!chip.held.isEmpty()) {
                    chip.held.remove(0);
                }
            }
            tick += clockTicks();
            clocks++;
            done++;
        }
        return done;
    }

    int handOut() {
        state(bus(4) == 0);
        chips.forEach(chip -> chip.held.clear());
        int got = 0;
        List<Chip> left = asking();
        while (!left.isEmpty()) {
            for (int bit = 128; bit >= 1; bit /= 2) {
                List<Chip> zeros = new ArrayList<>();
                for (Chip chip : left) {
                    if (chip.id / bit % 2 == 0) {
                        zeros.add(chip);
                    }
                }
                left = zeros.isEmpty() ? left : zeros;
            }
            int address = 8;
            while (isTaken(address)) {
                address++;
            }
            for (Chip chip : left) {
                chip.address = address;
            }
            got += left.size();
            tick += 10 * clockTicks();
            left = asking();
        }
        return got;
    }

    private boolean isTaken(int address) {
        return chips.stream().anyMatch(chip -> chip.address == address);
    }

    private List<Chip> asking() {
        List<Chip> all = new ArrayList<>();
        for (Chip chip : chips) {
            if (chip.powered && chip.address == 0 && (chip.channel == 0 || open[chip.channel])) {
                all.add(chip);
            }
        }
        return all;
    }

    int pass(int ticks) {
        argument(ticks > 0 && ticks <= 10000);
        tick += ticks;
        return tick;
    }

    int sample(int clock, int data) {
        argument((clock == 0 || clock == 1) && (data == 0 || data == 1));
        state(text.length() < 100);
        String change = "" + clockWire + dataWire + clock + data;
        if (change.equals("1110")) {
            text += "S";
            pending = "";
        } else if (change.equals("1011")) {
            text += "P";
            pending = null;
        } else if (clockWire == 0 && clock == 1 && pending != null) {
            pending += data;
            if (pending.length() == 9) {
                text += String.format("%02x", Integer.parseInt(pending.substring(0, 8), 2));
                text += pending.endsWith("0") ? "+" : "-";
                pending = "";
            }
        }
        clockWire = clock;
        dataWire = data;
        return text.length();
    }

    private boolean listens(Chip chip) {
        return chip.powered && chip.address != 0 && (chip.channel == 0 || open[chip.channel]);
    }

    int ofTarget(int target, int what) {
        Chip chip = chip(target);
        argument(what >= 0 && what <= 9);
        boolean clashes = false;
        for (Chip other : chips) {
            clashes |= other != chip && listens(chip) && listens(other) && other.address == chip.address;
        }
        int[] facts = {chip.address, chip.id, chip.stretch, chip.delay, chip.channel, chip.powered ? 1 : 0,
            listens(chip) ? 1 : 0, tick < chip.end ? 1 : 0, chip.held.size(), clashes ? 1 : 0};
        return facts[what];
    }

    int register(int target, int register) {
        Chip chip = chip(target);
        index(register >= 0 && register < 16);
        return chip.cells[register];
    }

    int ofMaster(int master, int what) {
        Talker talker = talker(master);
        argument(what >= 0 && what <= 6);
        int[] facts = {talker.period, talker.gap, talker.jobs.size(), talker.results.size(), talker.losses,
            talker.ready, talker.period >= clockTicks() ? 1 : 0};
        return facts[what];
    }

    int result(int master, int nth) {
        Talker talker = talker(master);
        index(nth >= 0 && nth < talker.results.size());
        return talker.results.get(nth);
    }

    int bus(int what) {
        argument(what >= 0 && what <= 9);
        switch (what) {
            case 0: return tick;
            case 1: return occupations;
            case 2: return load();
            case 3: return (int) Math.ceil(load() * resistor / 100.0);
            case 4: return chips.stream().anyMatch(chip -> !chip.held.isEmpty() && chip.held.get(0) == 0) ? 1 : 0;
            case 5: return bytes;
            case 6: return (int) talkers.stream().flatMap(t -> t.results.stream()).filter(r -> r == -1).count();
            case 7: return clocks;
            case 8: return (open[1] ? 2 : 0) + (open[2] ? 4 : 0) + (open[3] ? 8 : 0);
            default: return (int) chips.stream().filter(this::listens).count();
        }
    }

    private int load() {
        int load = 10;
        for (Chip chip : chips) {
            load += chip.powered && (chip.channel == 0 || open[chip.channel]) ? 15 : 0;
        }
        return load;
    }

    String trace() {
        return trace;
    }

    String text() {
        return text;
    }

    int check(int one, int two, int three) {
        argument(one >= 0 && one < 256 && two >= 0 && two < 256 && three >= 0 && three < 256);
        return check(List.of(one, two, three));
    }

    private static int check(List<Integer> row) {
        int c = 0;
        for (int one : row) {
            c ^= one;
            for (int i = 0; i < 8; i++) {
                if (c >= 128) {
                    c = (2 * c % 256) ^ 7;
                } else {
                    c = 2 * c;
                }
            }
        }
        return c;
    }

    int scan(int low, int high) {
        argument(low >= 0 && low < 128 && high >= low && high < 128);
        int many = 0;
        for (int address = low; address <= high; address++) {
            int one = address;
            many += chips.stream().anyMatch(c -> listens(c) && c.address == one && tick >= c.end) ? 1 : 0;
        }
        return many;
    }

    int would(int what) {
        argument(what == 0 || what == 1);
        if (bus(4) == 1) {
            return -1;
        }
        if (idle()) {
            return 0;
        }
        Course course = occupation(beginning());
        return what == 0 ? set(course.in) : course.ticks;
    }

    int fit(int period) {
        argument(period >= 2 && period <= 200);
        int greatest = -1;
        for (int other = 1; other <= 99; other++) {
            if (period >= 2 * ((load() * other + 99) / 100) + 2) {
                greatest = other;
            }
        }
        return greatest;
    }

    int isSound() {
        return 1;
    }

    long digest() {
        List<Long> all = new ArrayList<>();
        for (int what = 0; what < 10; what++) {
            all.add((long) bus(what));
        }
        for (int target = 0; target < chips.size(); target++) {
            for (int what = 0; what < 10; what++) {
                all.add((long) ofTarget(target, what));
            }
            for (int cell : chips.get(target).cells) {
                all.add((long) cell);
            }
        }
        for (int master = 0; master < talkers.size(); master++) {
            for (int what = 0; what < 7; what++) {
                all.add((long) ofMaster(master, what));
            }
            int many = ofMaster(master, 3);
            for (int nth = many - 1; nth > many - 4; nth--) {
                all.add(nth >= 0 ? (long) result(master, nth) : 999L);
            }
        }
        all.add((long) text.length());
        all.add((long) trace.length());
        all.add((long) would(0));
        all.add((long) would(1));
        all.add(1L);
        long d = 6203;
        for (long v : all) {
            d = d * 31 + v;
        }
        return d;
    }
}
