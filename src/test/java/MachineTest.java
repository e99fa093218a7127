/** Promises 12 to 16: receive, drop, run, result, steps. */
public final class MachineTest {
    private static final Due DUE = new Due("MachineTest");
    private static final int MIN = Integer.MIN_VALUE;
    private static final int MAX = Integer.MAX_VALUE;
    private static final int[] PACKET = {0x12, 0x34, 0x56, 0x78, 0x9a, 0xbc, 0xde, 0xf0};

    private MachineTest() {
    }

    public static void main(String[] args) {
        receive();
        arithmetic();
        loads();
        scratch();
        jumps();
        beginnings();
        refused();
        DUE.end();
    }

    private static void receive() {
        FilterProof x = Programs.with(0, Programs.op(10, 2, 0, 0, 0), Programs.op(0, 2, 0, 0, 0));
        int[] bad = {0, 9, -1, MIN, MAX};
        for (int n : bad) {
            DUE.is("receive(1, " + n + ")", x.receive(1, n), FilterProof.BAD);
        }
        DUE.is("receive(.., 3)", x.receive(0x1122334455667788L, 3), 3);
        DUE.is("receive(.., 1)", x.receive(-2L, 1), 4);
        DUE.is("run()", x.run(), 0);
        DUE.is("the lowest bytes, the highest first", x.result(), 0x667788fe);
        DUE.is("drop()", x.drop(), 4);
        DUE.is("drop() again", x.drop(), 0);
        DUE.is("run() on nothing", x.run(), 1);
        for (int n = 8; n <= 1016; n += 8) {
            DUE.is("receive(.., 8)", x.receive(0x0102030405060708L, 8), n);
        }
        DUE.is("receive(.., 7)", x.receive(0, 7), 1023);
        DUE.is("one too many", x.receive(0, 2), FilterProof.FULL);
        DUE.is("BAD before FULL", x.receive(0, 9), FilterProof.BAD);
        DUE.is("none came", x.receive(0xffL, 1), 1024);
        DUE.is("full", x.receive(0, 1), FilterProof.FULL);
        DUE.is("drop() all", x.drop(), 1024);
    }

    /** A run that sets register 2 to p, register 3 to q, does the operation and returns register 2. */
    private static void does(int p, int q, int op, int k, int trap, int result) {
        does(p, q, Programs.op(op, 2, 3, k, 0), trap, result);
    }

    private static void does(int p, int q, int[] ins, int trap, int result) {
        FilterProof x = Programs.with(0, Programs.op(1, 2, 0, p, 0), Programs.op(1, 3, 0, q, 0),
            ins, Programs.op(0, 2, 0, 0, 0));
        Programs.receive(x, PACKET);
        String name = "operation " + ins[0] + " of " + p + ", " + q + ", " + ins[3];
        DUE.is(name + ": run()", x.run(), trap);
        DUE.is(name + ": result()", x.result(), result);
        DUE.is(name + ": steps()", x.steps(), trap == 0 ? 4 : 3);
    }

    private static void arithmetic() {
        does(5, 6, 1, MIN, 0, MIN);
        does(5, 6, 2, 0, 0, 6);
        does(5, 6, 3, -9, 0, -4);
        does(MAX - 1, 0, 3, 1, 0, MAX);
        does(MAX, 0, 3, 1, 3, 0);
        does(MIN + 1, 0, 3, -1, 0, MIN);
        does(MIN, 0, 3, -1, 3, 0);
        does(5, 6, 4, 0, 0, 11);
        does(MAX, 1, 4, 0, 3, 0);
        does(MIN, -1, 4, 0, 3, 0);
        does(MAX, MIN, 4, 0, 0, -1);
        does(5, 6, 5, 0, 0, -1);
        does(MIN, 1, 5, 0, 3, 0);
        does(0, MIN, 5, 0, 3, 0);
        does(-1, MIN, 5, 0, 0, MAX);
        does(MIN, 0, Programs.op(5, 2, 2, 0, 0), 0, 0);
        does(MAX, 0, Programs.op(4, 2, 2, 0, 0), 3, 0);
        does(21, 0, Programs.op(4, 2, 2, 0, 0), 0, 42);
        does(-1, 0, 6, MAX, 0, MAX);
        does(0x35, 0, 6, 0x0f, 0, 5);
        does(-1, 0, 6, 0, 0, 0);
        does(-1, 0, 7, 1, 0, MAX);
        does(-1, 0, 7, 31, 0, 1);
        does(0x100, 0, 7, 4, 0, 0x10);
    }

    private static void loads() {
        does(0, 0, 8, 0, 0, 0x12);
        does(0, 4, 8, 0, 0, 0x9a);
        does(0, 9, 8, -2, 0, 0xf0);
        does(0, 0, 8, 8, 1, 0);
        does(0, 0, 8, -1, 1, 0);
        does(0, 2, 9, 1, 0, 0x789a);
        does(0, 6, 9, 0, 0, 0xdef0);
        does(0, 7, 9, 0, 1, 0);
        does(0, 0, 10, 4, 0, 0x9abcdef0);
        does(0, 5, 10, 0, 1, 0);
        does(0, MAX, 10, MAX, 1, 0);
        does(0, MIN, 10, MIN, 1, 0);
        does(0, MAX, 8, -MAX, 0, 0x12);
        does(0, MIN, 8, MAX, 1, 0);
    }

    private static void scratch() {
        does(7, 0, 12, 0, 0, 7);
        does(7, 31, 12, 0, 0, 7);
        does(7, 31, 12, 1, 2, 0);
        does(7, 0, 12, -1, 2, 0);
        does(7, 31, 11, 0, 0, 0);
        does(7, 32, 11, 0, 2, 0);
        does(7, 0, 11, -1, 2, 0);
        does(7, MAX, 11, MAX, 2, 0);
        FilterProof x = Programs.with(0, Programs.op(11, 3, 0, 5, 0), Programs.op(1, 2, 0, -2, 0),
            Programs.op(12, 2, 0, 5, 0), Programs.op(11, 4, 0, 5, 0), Programs.op(4, 3, 4, 0, 0),
            Programs.op(0, 3, 0, 0, 0));
        DUE.is("scratch run()", x.run(), 0);
        DUE.is("the lowest 8 bits", x.result(), 254);
        DUE.is("scratch run() again", x.run(), 0);
        DUE.is("scratch is 0 at first, each time", x.result(), 254);
    }

    /** Whether a jump is taken, by which of two RETURNs is reached. */
    private static void jump(int op, int p, int q, int k, boolean taken) {
        FilterProof x = Programs.with(0, Programs.op(1, 2, 0, p, 0), Programs.op(1, 3, 0, q, 0),
            Programs.op(op, 2, 3, k, 5), Programs.op(1, 4, 0, 1, 0), Programs.op(0, 4, 0, 0, 0),
            Programs.op(1, 4, 0, 2, 0), Programs.op(3, 4, 0, 0, 0), Programs.op(0, 4, 0, 0, 0));
        String name = "jump " + op + " of " + p + ", " + q + ", " + k;
        DUE.is(name + ": run()", x.run(), 0);
        DUE.is(name + ": result()", x.result(), taken ? 2 : 1);
        DUE.is(name + ": steps()", x.steps(), taken ? 6 : 5);
    }

    private static void jumps() {
        jump(13, 0, 0, 0, true);
        jump(14, 1, 2, 0, true);
        jump(14, 2, 2, 0, false);
        jump(14, 3, 2, 0, false);
        jump(14, MIN, MAX, 0, true);
        jump(15, -1, 0, 0, true);
        jump(15, 0, 9, 0, false);
        jump(15, MIN, 0, MIN, false);
        jump(15, MIN, 0, MIN + 1, true);
        jump(16, 4, 4, 0, true);
        jump(16, 4, 5, 0, false);
    }

    private static void beginnings() {
        for (int r = 0; r <= 7; r++) {
            FilterProof x = Programs.with(0, Programs.op(0, r, 0, 0, 0));
            Programs.receive(x, PACKET);
            DUE.is("register " + r + " run()", x.run(), 0);
            DUE.is("register " + r + " at first", x.result(), r == 1 ? 8 : 0);
            DUE.is("register " + r + " steps()", x.steps(), 1);
        }
        FilterProof x = Programs.with(0, Programs.op(3, 5, 0, 9, 0), Programs.op(0, 5, 0, 0, 0));
        x.run();
        x.run();
        DUE.is("registers are 0 at first, each time", x.result(), 9);
    }

    private static void refused() {
        FilterProof x = Programs.with(3, Programs.op(1, 2, 0, 77, 0), Programs.op(0, 2, 0, 0, 0));
        Programs.receive(x, 1, 2);
        DUE.is("too short", x.run(), FilterProof.BAD);
        DUE.is("nothing returned", x.result(), 0);
        DUE.is("nothing done", x.steps(), 0);
        Programs.receive(x, 3);
        DUE.is("just long enough", x.run(), 0);
        x.drop();
        DUE.is("too short again", x.run(), FilterProof.BAD);
        DUE.is("result() stays", x.result(), 77);
        DUE.is("steps() stay", x.steps(), 2);
        x.clear();
        Programs.receive(x, 1, 2, 3);
        DUE.is("not well made", x.run(), FilterProof.BAD);
        DUE.is("result() stays again", x.result(), 77);
        DUE.is("steps() stay again", x.steps(), 2);
        x.instruction(8, 2, 0, 3, 0);
        x.instruction(0, 2, 0, 0, 0);
        DUE.is("a trap", x.run(), 1);
        DUE.is("result() of a trap", x.result(), 0);
        DUE.is("steps() with the trap", x.steps(), 1);
    }
}
