import java.util.Arrays;

/** The boundary cases of promises 12 to 16 (receive, drop, run, result, steps) and of the instructions. */
public final class MachineEdgesTest {
    private static final Due DUE = new Due("MachineEdgesTest");
    private static final int MIN = Integer.MIN_VALUE;
    private static final int MAX = Integer.MAX_VALUE;
    private static final int BAD = FilterProof.BAD;
    private static final int FULL = FilterProof.FULL;
    private static final int[] END = Programs.op(0, 0, 0, 0, 0);
    private static final int[] NO_COUNTS = {MIN, MIN + 1, -8, -1, 0, 9, 10, 16, 257, MAX - 1, MAX};

    private MachineEdgesTest() {
    }

    public static void main(String[] args) {
        lowestBytes();
        badCounts();
        fullPacket();
        noneComes();
        badBeforeFull();
        dropped();
        notWellMade();
        shorterThanLeast();
        refusedRuns();
        resultWhenItDidNotReturn();
        stepsOfARun();
        registersAtFirst();
        scratchAtFirst();
        setAndCopied();
        sumsThatAreNoInt();
        masks();
        shifts();
        placesOfThePacket();
        loadedValues();
        placesOfTheScratch();
        lowestBits();
        placesWithoutBounds();
        jumpsTaken();
        DUE.end();
    }

    /** Register 2 and 3 are set, the instruction is done, register 2 is returned. */
    private static void does(int p, int q, int[] ins, int size, int trap, int result) {
        FilterProof x = Programs.with(0, Programs.op(1, 2, 0, p, 0), Programs.op(1, 3, 0, q, 0),
            ins, Programs.op(0, 2, 0, 0, 0));
        for (int i = 0; i < size; i++) {
            x.receive(0x81 + i, 1);
        }
        String name = Arrays.toString(ins) + " of " + p + ", " + q + ", " + size + " bytes";
        DUE.is(name + ": run()", x.run(), trap);
        DUE.is(name + ": result()", x.result(), trap == 0 ? result : 0);
        DUE.is(name + ": steps()", x.steps(), trap == 0 ? 4 : 3);
    }

    private static int[] op(int operation, int k) {
        return Programs.op(operation, 2, 3, k, 0);
    }

    private static void lowestBytes() {
        DUE.sentence("The lowest n bytes of bytes, the highest of them first, come behind the packet: its length");
        for (int n = 1; n <= 8; n++) {
            FilterProof x = new FilterProof(0);
            x.receive(0x7e, 1);
            DUE.is("receive(.., " + n + ")", x.receive(0x8192a3b4c5d6e7f8L, n), 1 + n);
            int[] bytes = {0x81, 0x92, 0xa3, 0xb4, 0xc5, 0xd6, 0xe7, 0xf8};
            for (int i = 0; i < n; i++) {
                x.clear();
                x.instruction(8, 2, 0, 1 + i, 0);
                x.instruction(0, 2, 0, 0, 0);
                x.run();
                DUE.is("byte " + i + " of " + n, x.result(), bytes[8 - n + i]);
            }
            x.clear();
            x.instruction(8, 2, 0, 1 + n, 0);
            x.instruction(0, 2, 0, 0, 0);
            DUE.is("no byte behind " + n, x.run(), 1);
        }
        long[] any = {Long.MIN_VALUE, -1, 0, 255, 256, Long.MAX_VALUE};
        int[] lowest = {0, 255, 0, 255, 0, 255};
        for (int i = 0; i < any.length; i++) {
            FilterProof x = Programs.with(0, Programs.op(8, 2, 0, 0, 0), Programs.op(0, 2, 0, 0, 0));
            DUE.is("receive(" + any[i] + ", 1)", x.receive(any[i], 1), 1);
            x.run();
            DUE.is("the lowest byte of " + any[i], x.result(), lowest[i]);
        }
    }

    private static FilterProof someBytes() {
        FilterProof x = Programs.with(2, Programs.op(8, 2, 0, 1, 0), Programs.op(0, 2, 0, 0, 0));
        Programs.receive(x, 11, 22, 33);
        x.run();
        Programs.say(x, 4, 5);
        x.check();
        return x;
    }

    private static FilterProof bytes(int count) {
        FilterProof x = Programs.with(0, Programs.op(8, 2, 1, -1, 0), Programs.op(0, 2, 0, 0, 0));
        Programs.receiveZeros(x, count - 1);
        x.receive(77, 1);
        return x;
    }

    private static void badCounts() {
        DUE.sentence("BAD when n is not 1 .. 8");
        for (int n : NO_COUNTS) {
            String name = "receive(-1, " + n + ")";
            DUE.is(name + " at first", new FilterProof(0).receive(-1, n), BAD);
            Stays.refused(DUE, name, MachineEdgesTest::someBytes, BAD, x -> x.receive(-1, n));
        }
        for (int n = 1; n <= 8; n++) {
            DUE.is("receive(-1, " + n + ")", new FilterProof(0).receive(-1, n), n);
        }
    }

    private static void fullPacket() {
        DUE.sentence("then FULL when it would have more than 1024");
        for (int n = 1; n <= 8; n++) {
            DUE.is(n + " behind " + (1024 - n), bytes(1024 - n).receive(0, n), 1024);
            DUE.is(n + " behind " + (1025 - n), bytes(1025 - n).receive(0, n), FULL);
            DUE.is(n + " behind 1024", bytes(1024).receive(0, n), FULL);
        }
        FilterProof x = bytes(1024);
        DUE.is("run() on 1024 bytes", x.run(), 0);
        DUE.is("the last one of 1024", x.result(), 77);
    }

    private static void noneComes() {
        DUE.sentence("(none comes)");
        Stays.refused(DUE, "2 behind 1023", () -> bytes(1023), FULL, x -> x.receive(-1, 2));
        Stays.refused(DUE, "8 behind 1017", () -> bytes(1017), FULL, x -> x.receive(-1, 8));
        Stays.refused(DUE, "1 behind 1024", () -> bytes(1024), FULL, x -> x.receive(-1, 1));
        FilterProof x = bytes(1017);
        x.receive(-1, 8);
        DUE.is("its last byte", x.run(), 0);
        DUE.is("is as it was", x.result(), 77);
        DUE.is("what fits still comes", x.receive(3, 7), 1024);
        DUE.is("its last byte", x.run(), 0);
        DUE.is("is what came", x.result(), 3);
        DUE.is("drop()", x.drop(), 1024);
    }

    private static void badBeforeFull() {
        DUE.sentence("BAD when n is not 1 .. 8; then FULL when it would have more than 1024");
        for (int n : NO_COUNTS) {
            DUE.is("receive(0, " + n + ") behind 1024", bytes(1024).receive(0, n), BAD);
        }
        DUE.is("receive(0, 8) behind 1024", bytes(1024).receive(0, 8), FULL);
    }

    private static void dropped() {
        DUE.sentence("The packet is empty again; how long it was");
        int[] counts = {1, 2, 1023, 1024};
        for (int count : counts) {
            FilterProof x = bytes(count);
            DUE.is("drop() of " + count, x.drop(), count);
            DUE.is("drop() again", x.drop(), 0);
            DUE.is("run() on nothing", x.run(), 1);
            DUE.is("receive() anew", x.receive(5, 1), 1);
            DUE.is("run() anew", x.run(), 0);
            DUE.is("the byte anew", x.result(), 5);
        }
        DUE.is("drop() of nothing", new FilterProof(9).drop(), 0);
        FilterProof y = someBytes();
        int place = y.place();
        y.drop();
        DUE.is("place() stays", y.place(), place);
        DUE.is("result() stays", y.result(), 22);
        DUE.is("steps() stay", y.steps(), 2);
        DUE.is("the tape stays", y.length(), 2);
        DUE.is("the filter stays", y.clear(), 2);
    }

    private static void notWellMade() {
        DUE.sentence("BAD when it is not well made");
        DUE.is("no instruction", new FilterProof(0).run(), BAD);
        DUE.is("no RETURN", Programs.with(0, Programs.op(1, 0, 0, 0, 0)).run(), BAD);
        DUE.is("a RETURN", Programs.with(0, END).run(), 0);
        DUE.is("a wrong one that no run comes to",
            Programs.with(0, END, Programs.op(7, 0, 0, 32, 0), END).run(), BAD);
        DUE.is("a wrong one that a run would jump over",
            Programs.with(0, Programs.op(13, 0, 0, 0, 2), Programs.op(6, 0, 0, -1, 0), END).run(), BAD);
        DUE.is("not well made, and too short", Programs.with(1, Programs.op(1, 0, 0, 0, 0)).run(), BAD);
    }

    private static void shorterThanLeast() {
        DUE.sentence("or the packet is shorter than LEAST");
        int[] leasts = {1, 2, 8, 1023, 1024};
        for (int least : leasts) {
            FilterProof x = Programs.with(least, Programs.op(0, 1, 0, 0, 0));
            DUE.is("nothing for " + least, x.run(), BAD);
            Programs.receiveZeros(x, least - 1);
            DUE.is("one byte too few for " + least, x.run(), BAD);
            x.receive(0, 1);
            DUE.is("as many as " + least, x.run(), 0);
            DUE.is("result() of " + least, x.result(), least);
            x.drop();
            DUE.is("nothing again for " + least, x.run(), BAD);
        }
        DUE.is("nothing for 0", Programs.with(0, END).run(), 0);
    }

    private static FilterProof tooShort() {
        FilterProof x = someBytes();
        x.drop();
        x.receive(99, 1);
        return x;
    }

    private static FilterProof notWellMadeAnyMore() {
        FilterProof x = someBytes();
        x.instruction(1, 0, 0, 0, 0);
        return x;
    }

    private static void refusedRuns() {
        DUE.sentence("(what the latest run told stays then)");
        Stays.refused(DUE, "too short", MachineEdgesTest::tooShort, BAD, FilterProof::run);
        Stays.refused(DUE, "not well made", MachineEdgesTest::notWellMadeAnyMore, BAD, FilterProof::run);
        FilterProof x = tooShort();
        x.run();
        DUE.is("result() of one that returned", x.result(), 22);
        DUE.is("steps() of one that returned", x.steps(), 2);
        FilterProof y = Programs.with(1, Programs.op(1, 2, 0, 5, 0), Programs.op(8, 2, 0, 1, 0), END);
        y.receive(0, 1);
        DUE.is("a trap", y.run(), 1);
        y.drop();
        DUE.is("too short behind a trap", y.run(), BAD);
        DUE.is("result() of the trap", y.result(), 0);
        DUE.is("steps() of the trap", y.steps(), 2);
        y.clear();
        y.receive(0, 1);
        DUE.is("no filter behind a trap", y.run(), BAD);
        DUE.is("steps() of the trap still", y.steps(), 2);
    }

    private static void resultWhenItDidNotReturn() {
        DUE.sentence("What the latest run returned; 0 when it did not");
        FilterProof x = Programs.with(0, Programs.op(8, 3, 0, 0, 0), Programs.op(1, 2, 0, -7, 0),
            Programs.op(0, 2, 0, 0, 0));
        DUE.is("no run yet", x.result(), 0);
        DUE.is("a trap", x.run(), 1);
        DUE.is("of a trap", x.result(), 0);
        x.receive(0, 1);
        DUE.is("a return", x.run(), 0);
        DUE.is("of a return", x.result(), -7);
        x.drop();
        DUE.is("a trap again", x.run(), 1);
        DUE.is("of a trap again", x.result(), 0);
        int[] any = {MIN, -1, 0, 1, MAX};
        for (int k : any) {
            FilterProof y = Programs.with(0, Programs.op(1, 7, 0, k, 0), Programs.op(0, 7, 0, 0, 0));
            y.run();
            DUE.is("a return of " + k, y.result(), k);
        }
    }

    private static void stepsOfARun() {
        DUE.sentence("How many instructions the latest run did, the one with the trap, too");
        FilterProof x = new FilterProof(0);
        DUE.is("no run yet", x.steps(), 0);
        for (int n = 0; n < 46; n++) {
            x.instruction(3, 2, 0, 1, 0);
        }
        x.instruction(8, 3, 0, 0, 0);
        x.instruction(0, 2, 0, 0, 0);
        DUE.is("a trap at the 47th", x.run(), 1);
        DUE.is("its steps", x.steps(), 47);
        x.receive(0, 1);
        DUE.is("a return at the 48th", x.run(), 0);
        DUE.is("its steps", x.steps(), 48);
        x.clear();
        x.instruction(11, 0, 0, 32, 0);
        x.instruction(0, 0, 0, 0, 0);
        DUE.is("a trap at the first", x.run(), 2);
        DUE.is("its steps", x.steps(), 1);
        x.clear();
        x.instruction(0, 0, 0, 0, 0);
        DUE.is("a return at the first", x.run(), 0);
        DUE.is("its steps", x.steps(), 1);
        FilterProof y = new FilterProof(0);
        y.instruction(13, 0, 0, 0, 47);
        for (int n = 1; n < 48; n++) {
            y.instruction(0, 0, 0, 0, 0);
        }
        DUE.is("a jump over all others", y.run(), 0);
        DUE.is("its steps", y.steps(), 2);
    }

    private static void registersAtFirst() {
        DUE.sentence("At first register 1 is the packet's length, the others are 0");
        int[] sizes = {0, 1, 255, 256, 1023, 1024};
        for (int size : sizes) {
            for (int r = 0; r <= 7; r++) {
                FilterProof x = Programs.with(0, Programs.op(0, r, 0, 0, 0));
                Programs.receiveZeros(x, size);
                x.run();
                DUE.is("register " + r + " with " + size + " bytes", x.result(), r == 1 ? size : 0);
            }
        }
        for (int r = 0; r <= 7; r++) {
            FilterProof x = Programs.with(0, Programs.op(3, r, 0, 5, 0), Programs.op(0, r, 0, 0, 0));
            x.run();
            x.run();
            DUE.is("register " + r + " in the second run", x.result(), 5);
            FilterProof y = Programs.with(0, Programs.op(3, r, 0, 5, 0), Programs.op(8, 2, 0, 0, 0), END);
            y.run();
            y.clear();
            y.instruction(0, r, 0, 0, 0);
            y.run();
            DUE.is("register " + r + " behind a trap", y.result(), 0);
        }
    }

    private static void scratchAtFirst() {
        DUE.sentence("There are 32 bytes of SCRATCH, at first 0");
        for (int place = 0; place <= 31; place++) {
            does(7, place, op(11, 0), 0, 0, 0);
            FilterProof x = Programs.with(0, Programs.op(11, 3, 0, place, 0), Programs.op(1, 2, 0, 9, 0),
                Programs.op(12, 2, 0, place, 0), Programs.op(11, 4, 0, place, 0), Programs.op(0, 3, 0, 0, 0));
            x.run();
            DUE.is("run() at " + place, x.run(), 0);
            DUE.is("byte " + place + " at first in the second run", x.result(), 0);
            x.clear();
            x.instruction(12, 1, 0, place, 0);
            x.instruction(11, 4, 0, place, 0);
            x.instruction(0, 4, 0, 0, 0);
            Programs.receiveZeros(x, 200);
            x.run();
            DUE.is("byte " + place + " that was written", x.result(), 200);
        }
    }

    private static void setAndCopied() {
        DUE.sentence("1 a becomes k. 2 a becomes b");
        int[] any = {MIN, MIN + 1, -1, 0, 1, MAX};
        for (int v : any) {
            does(5, 6, op(1, v), 0, 0, v);
            does(5, v, op(2, 0), 0, 0, v);
            does(v, 6, Programs.op(2, 2, 2, 0, 0), 0, 0, v);
        }
    }

    private static void sumsThatAreNoInt() {
        DUE.sentence("3 a becomes a + k, 4 a + b, 5 a - b: TRAP 3 when that is no int");
        int[][] sums = {{MAX - 1, 1}, {MAX, 0}, {MIN, MAX}, {MIN + 1, -1}, {MIN, 0}, {0, MIN}, {0, MAX}, {-1, MIN + 1}};
        for (int[] s : sums) {
            does(s[0], 0, op(3, s[1]), 0, 0, s[0] + s[1]);
            does(s[0], s[1], op(4, 0), 0, 0, s[0] + s[1]);
        }
        int[][] beyond = {{MAX, 1}, {1, MAX}, {MAX, MAX}, {MIN, -1}, {-1, MIN}, {MIN, MIN}};
        for (int[] s : beyond) {
            does(s[0], 0, op(3, s[1]), 0, 3, 0);
            does(s[0], s[1], op(4, 0), 0, 3, 0);
        }
        int[][] differences = {{MAX, 0}, {MAX, MAX}, {-1, MIN}, {MIN, MIN}, {MIN, 0}, {MIN + 1, 1}, {-1, MAX}};
        for (int[] d : differences) {
            does(d[0], d[1], op(5, 0), 0, 0, d[0] - d[1]);
        }
        int[][] beyondToo = {{0, MIN}, {MAX, -1}, {MAX, MIN}, {MIN, 1}, {-2, MAX}, {MIN, MAX}};
        for (int[] d : beyondToo) {
            does(d[0], d[1], op(5, 0), 0, 3, 0);
        }
        does(1 << 30, 0, Programs.op(4, 2, 2, 0, 0), 0, 3, 0);
        does((1 << 30) - 1, 0, Programs.op(4, 2, 2, 0, 0), 0, 0, MAX - 1);
        does(-(1 << 30), 0, Programs.op(4, 2, 2, 0, 0), 0, 0, MIN);
        does(-(1 << 30) - 1, 0, Programs.op(4, 2, 2, 0, 0), 0, 3, 0);
        does(MIN, 0, Programs.op(5, 2, 2, 0, 0), 0, 0, 0);
        does(MAX, 0, Programs.op(5, 2, 2, 0, 0), 0, 0, 0);
    }

    private static void masks() {
        DUE.sentence("6 a becomes a and k (k not below 0), bit by bit");
        does(-1, 0, op(6, 0), 0, 0, 0);
        does(-1, 0, op(6, MAX), 0, 0, MAX);
        does(MIN, 0, op(6, MAX), 0, 0, 0);
        does(MAX, 0, op(6, MAX), 0, 0, MAX);
        does(-2, 0, op(6, 3), 0, 0, 2);
    }

    private static void shifts() {
        DUE.sentence("7 a becomes a shifted right by k (1 .. 31), from above come 0s");
        does(-1, 0, op(7, 1), 0, 0, MAX);
        does(-1, 0, op(7, 31), 0, 0, 1);
        does(MIN, 0, op(7, 1), 0, 0, 1 << 30);
        does(MIN, 0, op(7, 31), 0, 0, 1);
        does(MAX, 0, op(7, 31), 0, 0, 0);
        does(MAX, 0, op(7, 30), 0, 0, 1);
        does(1, 0, op(7, 1), 0, 0, 0);
    }

    private static void placesOfThePacket() {
        DUE.sentence("TRAP 1 when these are not all places of the packet");
        for (int op = 8; op <= 10; op++) {
            int size = 1 << (op - 8);
            for (int length = size; length <= size + 2; length++) {
                int last = length - size;
                int[] bytes = {0x81, 0x82, 0x83, 0x84, 0x85, 0x86};
                int first = 0;
                int end = 0;
                for (int i = 0; i < size; i++) {
                    first = first << 8 | bytes[i];
                    end = end << 8 | bytes[last + i];
                }
                does(0, 0, op(op, 0), length, 0, first);
                does(0, 0, op(op, last), length, 0, end);
                does(0, last, op(op, 0), length, 0, end);
                does(0, length, op(op, -size), length, 0, end);
                does(0, 0, op(op, last + 1), length, 1, 0);
                does(0, last + 1, op(op, 0), length, 1, 0);
                does(0, 0, op(op, -1), length, 1, 0);
                does(0, -1, op(op, 0), length, 1, 0);
                does(0, 0, op(op, length), length, 1, 0);
            }
            for (int length = 0; length < size; length++) {
                does(0, 0, op(op, 0), length, 1, 0);
                does(0, 0, op(op, -size), length, 1, 0);
            }
            lastPlacesOfTheLongest(op, size);
        }
    }

    private static void lastPlacesOfTheLongest(int op, int size) {
        FilterProof x = Programs.with(1024, Programs.op(op, 2, 0, 1024 - size, 0), Programs.op(0, 2, 0, 0, 0));
        Programs.receiveZeros(x, 1023);
        x.receive(9, 1);
        DUE.is(op + " at the last place of 1024", x.run(), 0);
        DUE.is(op + ": the last byte of 1024", x.result(), 9);
        x.clear();
        x.instruction(op, 2, 0, 1025 - size, 0);
        x.instruction(0, 2, 0, 0, 0);
        DUE.is(op + " one behind the last place of 1024", x.run(), 1);
    }

    private static void loadedValues() {
        DUE.sentence("the highest one first (the 4 as an int)");
        long[] bytes = {0, 0x7f, 0x80, 0xff, 0x7fff, 0x8000, 0xffff, 0x7fffffffL, 0x80000000L, 0xffffffffL};
        for (long b : bytes) {
            for (int op = 8; op <= 10; op++) {
                int size = 1 << (op - 8);
                FilterProof x = Programs.with(0, Programs.op(op, 2, 0, 0, 0), Programs.op(0, 2, 0, 0, 0));
                x.receive(b, size);
                x.run();
                int due = op == 10 ? (int) b : (int) (b & (op == 8 ? 255 : 65535));
                DUE.is(op + " of " + b, x.result(), due);
            }
        }
    }

    private static void placesOfTheScratch() {
        DUE.sentence("TRAP 2 when there is no such place");
        for (int op = 11; op <= 12; op++) {
            int result = op == 11 ? 0 : 7;
            int[][] right = {{0, 0}, {31, 0}, {0, 31}, {32, -1}, {-1, 1}, {MAX, 31 - MAX}, {MIN + 1, MAX}, {MAX, -MAX}};
            for (int[] r : right) {
                does(7, r[0], op(op, r[1]), 0, 0, result);
            }
            int[][] wrong = {{0, -1}, {-1, 0}, {32, 0}, {0, 32}, {31, 1}, {MAX, 32 - MAX}, {MIN, MAX}, {MAX, 0}, {0, MIN}};
            for (int[] w : wrong) {
                does(7, w[0], op(op, w[1]), 40, 2, 0);
            }
        }
    }

    private static void lowestBits() {
        DUE.sentence("12 that byte becomes the lowest 8 bits of a");
        int[] any = {0, 1, 127, 128, 255, 256, 257, -1, -128, -129, -256, MIN, MAX};
        for (int v : any) {
            FilterProof x = Programs.with(0, Programs.op(1, 2, 0, v, 0), Programs.op(12, 2, 0, 31, 0),
                Programs.op(11, 3, 0, 31, 0), Programs.op(0, 3, 0, 0, 0));
            x.run();
            DUE.is("a byte of " + v, x.result(), v & 255);
            x.clear();
            x.instruction(1, 2, 0, v, 0);
            x.instruction(12, 2, 0, 31, 0);
            x.instruction(0, 2, 0, 0, 0);
            x.run();
            DUE.is("12 leaves a as " + v, x.result(), v);
        }
    }

    private static void placesWithoutBounds() {
        DUE.sentence("(Places are reckoned without bounds.)");
        for (int op = 8; op <= 12; op++) {
            int trap = op <= 10 ? 1 : 2;
            int[][] far = {{MIN, MIN}, {MAX, MAX}, {MAX, 1}, {1, MAX}, {MAX, 0}, {0, MAX}, {MAX - 1, 0}, {MAX - 3, 0},
                {0, MAX - 1}, {0, MAX - 3}, {MIN, 0}, {0, MIN}, {MIN, -1}, {-1, MIN}, {MIN, MIN + 1}, {MIN + 1, MIN},
                {MIN + 3, MIN}, {MIN, MAX}};
            for (int[] f : far) {
                does(0, f[0], op(op, f[1]), 40, trap, 0);
            }
        }
        does(0, MAX, op(10, -MAX), 40, 0, 0x81828384);
        does(0, MIN + 1, op(10, MAX), 40, 0, 0x81828384);
        does(0, -MAX, op(8, MAX), 40, 0, 0x81);
    }

    private static void jump(int op, int p, int q, int k, boolean taken) {
        FilterProof x = Programs.with(0, Programs.op(1, 2, 0, p, 0), Programs.op(1, 3, 0, q, 0),
            Programs.op(op, 2, 3, k, 4), Programs.op(0, 4, 0, 0, 0), Programs.op(1, 4, 0, 1, 0),
            Programs.op(0, 4, 0, 0, 0));
        String name = "jump " + op + " of " + p + ", " + q + ", " + k;
        DUE.is(name + ": run()", x.run(), 0);
        DUE.is(name + ": result()", x.result(), taken ? 1 : 0);
        DUE.is(name + ": steps()", x.steps(), taken ? 5 : 4);
    }

    private static void jumpsTaken() {
        DUE.sentence("14 at t if a is below b, 15 if a is below k, 16 if a is b");
        int[] any = {MIN, MIN + 1, -1, 0, 1, MAX - 1, MAX};
        for (int p : any) {
            for (int q : any) {
                jump(14, p, q, 0, p < q);
                jump(15, p, 0, q, p < q);
                jump(16, p, q, 0, p == q);
            }
            jump(13, p, 0, 0, true);
            for (int op = 13; op <= 16; op++) {
                FilterProof next = Programs.with(0, Programs.op(1, 2, 0, p, 0), Programs.op(op, 2, 3, 0, 2), END);
                DUE.is(op + " of " + p + " to the next one", next.run(), 0);
                DUE.is(op + " of " + p + " to the next one, its steps", next.steps(), 3);
            }
            FilterProof x = Programs.with(0, Programs.op(1, 2, 0, p, 0), Programs.op(14, 2, 2, 0, 4),
                Programs.op(2, 0, 0, 0, 0), END, END);
            x.run();
            DUE.is("14 of a register and itself", x.steps(), 4);
            FilterProof y = Programs.with(0, Programs.op(1, 2, 0, p, 0), Programs.op(16, 2, 2, 0, 4),
                Programs.op(2, 0, 0, 0, 0), END, END);
            y.run();
            DUE.is("16 of a register and itself", y.steps(), 3);
        }
    }
}
