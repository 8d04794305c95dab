import java.util.ArrayList;
import java.util.Arrays;
import java.util.List;
import java.util.Set;
import java.util.TreeSet;

/**
 * The document once more, in its own words and order and with no thought of speed: what ModelTest
 * compares the program with. It shares nothing with the program but the document.
 */
final class Model {
    private static final String[][] OPERATIONS = {
        {"ADD", "SUB", "AND", "OR", "XOR", "EQ", "GT", "LT", "SADD", "NORM"},
        {"ADD", "SUB", "SHL", "SHR", "SHRU", "CONST", "HIGH", "GO", "GO b", "BACK", "WAIT", "HALT"},
        {"MPY", "MPYH", "MPYU", "SMPY"},
        {"ADD", "SUB", "LOAD", "STORE"},
    };
    private static final int[] CONDITIONS = {-1, 16, 17, 18, 1, 2};
    private static final Set<String> NOTHING_WRITTEN = Set.of("GO", "GO b", "BACK", "WAIT", "HALT", "STORE");
    private static final Set<String> WITHOUT_D = Set.of("GO", "GO b", "BACK", "WAIT", "HALT");
    private static final Set<String> WITHOUT_A =
        Set.of("CONST", "HIGH", "GO", "GO b", "BACK", "WAIT", "HALT", "NORM");
    private static final Set<String> WITHOUT_B = Set.of("CONST", "HIGH", "GO", "BACK", "HALT");
    private static final Set<String> NUMBER_UP_TO_BIT_31 = Set.of("CONST", "HIGH", "GO");

    /** A cycle that stops: what was done of it stays, the rest is not done. */
    private static final class Stop extends Exception {
        private static final long serialVersionUID = 1L;
        final int state;

        Stop(int state) {
            this.state = state;
        }
    }

    private record Write(int register, int value, int cycle) { }

    private record Branch(int target, int cycle) { }

    private static final class Word {
        final int bits;
        final int condition;
        final boolean isIfZero;
        final int unit;
        final int side;
        final String operation;
        final int d;
        final int a;
        final int b;
        final boolean isNumber;

        Word(int bits) {
            this.bits = bits;
            condition = field(1, 3);
            isIfZero = field(4, 4) == 1;
            unit = field(5, 7);
            side = unit / 4;
            String[] names = OPERATIONS[unit % 4];
            operation = field(8, 11) < names.length ? names[field(8, 11)] : "none";
            d = field(12, 16);
            a = field(17, 21);
            isNumber = field(27, 27) == 1;
            b = isNumber && field(22, 26) > 15 ? field(22, 26) - 32 : field(22, 26);
        }

        int field(int from, int to) {
            long unsigned = bits & 0xFFFFFFFFL;
            return (int) (unsigned % (1L << to + 1) / (1L << from));
        }

        boolean isAlone() {
            return field(0, 0) == 0;
        }

        int longNumber() {
            int n = field(17, 31);
            return n >= 1 << 14 ? n - (1 << 15) : n;
        }

        boolean isIllFormed() {
            return field(28, 31) != 0 && !NUMBER_UP_TO_BIT_31.contains(operation)
                || condition > 5
                || condition == 0 && isIfZero
                || operation.equals("none")
                || !WITHOUT_D.contains(operation) && d / 16 != side
                || !WITHOUT_A.contains(operation) && a / 16 != side;
        }

        boolean isAcross() {
            return !WITHOUT_B.contains(operation) && !isNumber && b / 16 != side;
        }

        boolean isOnData() {
            return operation.equals("LOAD") || operation.equals("STORE");
        }
    }

    private final int[] program;
    private final int[] data;
    private final int[] registers = new int[32];
    private final TreeSet<Integer> lines = new TreeSet<>();
    private List<Write> writes = new ArrayList<>();
    private final List<Branch> branches = new ArrayList<>();
    private int state;
    private int address;
    private int cycles;
    private int waits;
    private int back;
    private boolean isLetIn;
    private boolean isHalting;

    Model(int program, int data) {
        this.program = new int[program < 16 ? 16 : program > 256 ? 256 : program];
        this.data = new int[data < 16 ? 16 : data > 256 ? 256 : data];
    }

    boolean word(int at, int w) {
        return put(program, at, w);
    }

    boolean poke(int at, int v) {
        return put(data, at, v);
    }

    int peek(int at) {
        return at >= 0 && at < data.length ? data[at] : 0;
    }

    boolean set(int register, int v) {
        return put(registers, register, v);
    }

    int get(int register) {
        return register >= 0 && register < 32 ? registers[register] : 0;
    }

    private static boolean put(int[] row, int at, int v) {
        if (at < 0 || at >= row.length) {
            return false;
        }
        row[at] = v;
        return true;
    }

    int run(int n) {
        if (n < 0 || n > 2000) {
            return -1;
        }
        int done = 0;
        for (; done < n && state == 0; done++) {
            try {
                cycle();
            } catch (Stop stop) {
                state = stop.state;
            }
        }
        return done;
    }

    int about(int what) {
        int raised = 0;
        for (int line : lines) {
            raised += (int) Math.pow(2, line);
        }
        int[] all = {state, address, cycles, writes.size(), branches.size(), waits, back, isLetIn ? 1 : 0, raised};
        return what >= 0 && what < all.length ? all[what] : -1;
    }

    int due(int i, int what) {
        if (i < 0 || i >= writes.size() || what < 0 || what > 2) {
            return -1;
        }
        Write w = writes.get(i);
        return new int[] {w.register, w.value, w.cycle - cycles}[what];
    }

    boolean raise(int line) {
        return line >= 0 && line <= 3 && lines.add(line);
    }

    void letIn(boolean is) {
        isLetIn = is;
    }

    boolean start(int at) {
        if (at < 0 || at >= program.length) {
            return false;
        }
        address = at;
        state = 0;
        waits = 0;
        writes.clear();
        branches.clear();
        return true;
    }

    private void cycle() throws Stop {
        cycles++;
        landWrites();
        goWhereDue();
        if (waits > 0) {
            waits--;
            return;
        }
        if (isLetIn && !lines.isEmpty() && branches.isEmpty()) {
            int line = lines.pollFirst();
            isLetIn = false;
            back = address;
            address = 8 * line + 8;
        }
        List<Word> packet = packet();
        lookAt(packet);
        isHalting = false;
        doAll(packet);
        address += packet.size();
        if (isHalting) {
            throw new Stop(9);
        }
    }

    private void landWrites() throws Stop {
        List<Write> landing = new ArrayList<>();
        List<Write> later = new ArrayList<>();
        for (Write w : writes) {
            (w.cycle == cycles ? landing : later).add(w);
        }
        Set<Integer> targets = new TreeSet<>();
        for (Write w : landing) {
            if (!targets.add(w.register)) {
                throw new Stop(5);
            }
        }
        for (Write w : landing) {
            registers[w.register] = w.value;
        }
        writes = later;
    }

    private void goWhereDue() throws Stop {
        List<Branch> now = new ArrayList<>();
        for (Branch b : branches) {
            if (b.cycle == cycles) {
                now.add(b);
            }
        }
        if (now.size() > 1) {
            throw new Stop(6);
        }
        for (Branch b : now) {
            address = b.target;
            branches.remove(b);
        }
    }

    private List<Word> packet() throws Stop {
        List<Word> packet = new ArrayList<>();
        for (long at = address; Math.floorDiv(at, 8L) == Math.floorDiv(address, 8); at++) {
            if (at < 0 || at >= program.length) {
                throw new Stop(8);
            }
            Word w = new Word(program[(int) at]);
            packet.add(w);
            if (w.isAlone()) {
                return packet;
            }
        }
        throw new Stop(1);
    }

    private void lookAt(List<Word> packet) throws Stop {
        for (Word w : packet) {
            if (w.isIllFormed()) {
                throw new Stop(2);
            }
        }
        Set<Integer> units = new TreeSet<>();
        for (Word w : packet) {
            if (!units.add(w.unit)) {
                throw new Stop(3);
            }
        }
        Set<Integer> sides = new TreeSet<>();
        for (Word w : packet) {
            if (w.isAcross() && !sides.add(w.side)) {
                throw new Stop(4);
            }
        }
        for (Word w : packet) {
            if (w.isOnData() && isDone(w) && (registers[w.a] + b(w) < 0 || registers[w.a] + b(w) >= data.length)) {
                throw new Stop(7);
            }
        }
    }

    private boolean isDone(Word w) {
        if (w.condition == 0) {
            return true;
        }
        boolean isZero = registers[CONDITIONS[w.condition]] == 0;
        return w.isIfZero ? isZero : !isZero;
    }

    private int b(Word w) {
        return w.isNumber ? w.b : registers[w.b];
    }

    private void doAll(List<Word> packet) {
        int[] dataAfter = Arrays.copyOf(data, data.length);
        for (Word w : packet) {
            if (!isDone(w)) {
                continue;
            }
            if (w.operation.equals("STORE")) {
                dataAfter[registers[w.a] + b(w)] = registers[w.d];
            } else if (NOTHING_WRITTEN.contains(w.operation)) {
                steer(w);
            } else {
                writes.add(new Write(w.d, value(w), cycles + delay(w)));
            }
        }
        System.arraycopy(dataAfter, 0, data, 0, data.length);
    }

    private static int delay(Word w) {
        return w.operation.equals("LOAD") ? 5 : w.unit % 4 == 2 ? 2 : 1;
    }

    private void steer(Word w) {
        switch (w.operation) {
            case "GO" -> branches.add(new Branch(w.field(12, 31), cycles + 6));
            case "GO b" -> branches.add(new Branch(b(w), cycles + 6));
            case "BACK" -> {
                branches.add(new Branch(back, cycles + 6));
                isLetIn = true;
            }
            case "WAIT" -> waits = Math.max(waits, Math.floorMod(b(w), 16));
            default -> isHalting = true;
        }
    }

    private int value(Word w) {
        long a = registers[w.a];
        long b = b(w);
        int by = (int) Math.floorMod(b, 32L);
        long product = signed16(a) * signed16(b);
        return switch (w.operation) {
            case "ADD" -> (int) (a + b);
            case "SUB" -> (int) (a - b);
            case "AND" -> (int) (a & b);
            case "OR" -> (int) (a | b);
            case "XOR" -> (int) (a ^ b);
            case "EQ" -> a == b ? 1 : 0;
            case "GT" -> a > b ? 1 : 0;
            case "LT" -> a < b ? 1 : 0;
            case "SADD" -> (int) Math.max(Integer.MIN_VALUE, Math.min(Integer.MAX_VALUE, a + b));
            case "NORM" -> Integer.numberOfLeadingZeros((int) (b < 0 ? ~b : b)) - 1;
            case "SHL" -> (int) (a * (1L << by));
            case "SHR" -> (int) Math.floorDiv(a, 1L << by);
            case "SHRU" -> (int) ((a & 0xFFFFFFFFL) / (1L << by));
            case "CONST" -> w.longNumber();
            case "HIGH" -> (int) (w.longNumber() * 65536L + Math.floorMod(registers[w.d], 65536));
            case "MPY" -> (int) product;
            case "MPYH" -> (int) (Math.floorDiv(a, 65536L) * Math.floorDiv(b, 65536L));
            case "MPYU" -> (int) (Math.floorMod(a, 65536L) * Math.floorMod(b, 65536L));
            case "SMPY" -> (int) Math.min(Integer.MAX_VALUE, 2 * product);
            default -> data[(int) a + (int) b];
        };
    }

    private static long signed16(long v) {
        long low = Math.floorMod(v, 65536L);
        return low >= 32768 ? low - 65536 : low;
    }
}
