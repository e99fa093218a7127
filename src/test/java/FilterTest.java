/** Promises 1, 2, 3: a new object, instruction, clear; and which filters are well made. */
public final class FilterTest {
    private static final Due DUE = new Due("FilterTest");

    private FilterTest() {
    }

    public static void main(String[] args) {
        newObject();
        least();
        instruction();
        clear();
        wellMade();
        DUE.end();
    }

    private static void newObject() {
        FilterProof x = new FilterProof(7);
        DUE.is("new place()", x.place(), FilterProof.NO);
        DUE.is("new length()", x.length(), 0);
        DUE.is("new result()", x.result(), 0);
        DUE.is("new steps()", x.steps(), 0);
        DUE.is("new drop()", x.drop(), 0);
        DUE.is("new clear()", x.clear(), 0);
        DUE.is("new run()", x.run(), FilterProof.BAD);
        DUE.is("new check()", x.check(), -1);
        DUE.is("new check() place()", x.place(), 0);
    }

    /** The LEAST is seen in which packets run() takes, and in the fact that a proof has of it. */
    private static void least() {
        int[] asked = {Integer.MIN_VALUE, -1, 0, 1, 5, 1023, 1024, 1025, Integer.MAX_VALUE};
        int[] due = {0, 0, 0, 1, 5, 1023, 1024, 1024, 1024};
        for (int n = 0; n < asked.length; n++) {
            String name = "least " + asked[n];
            FilterProof x = Programs.with(asked[n], Programs.op(0, 1, 0, 0, 0));
            for (int i = 0; i < due[n] / 8 * 8; i += 8) {
                x.receive(0, 8);
            }
            for (int i = due[n] / 8 * 8; i < due[n] - 1; i++) {
                x.receive(0, 1);
            }
            if (due[n] > 0 && due[n] % 8 != 0) {
                DUE.is(name + ", one too short", x.run(), FilterProof.BAD);
                x.receive(0, 1);
            }
            DUE.is(name + ", long enough", x.run(), 0);
            DUE.is(name + ", its length", x.result(), due[n]);
            FilterProof y = Programs.with(asked[n],
                Programs.op(8, 2, 0, due[n] - 1, 0), Programs.op(0, 2, 0, 0, 0));
            DUE.is(name + ", its last byte", y.prove() > 0, due[n] > 0);
            FilterProof z = Programs.with(asked[n],
                Programs.op(8, 2, 0, due[n], 0), Programs.op(0, 2, 0, 0, 0));
            DUE.is(name + ", the byte behind", z.prove(), FilterProof.NO);
        }
    }

    private static void instruction() {
        FilterProof x = new FilterProof(0);
        DUE.is("operation -1", x.instruction(-1, 0, 0, 0, 0), FilterProof.BAD);
        DUE.is("operation 17", x.instruction(17, 0, 0, 0, 0), FilterProof.BAD);
        DUE.is("operation least", x.instruction(Integer.MIN_VALUE, 0, 0, 0, 0), FilterProof.BAD);
        DUE.is("operation greatest", x.instruction(Integer.MAX_VALUE, 0, 0, 0, 0), FilterProof.BAD);
        for (int op = 0; op <= 16; op++) {
            DUE.is("operation " + op, x.instruction(op, 99, -5, Integer.MIN_VALUE, -1), op + 1);
        }
        for (int n = 18; n <= 48; n++) {
            DUE.is("instruction " + n, x.instruction(0, 0, 0, 0, 0), n);
        }
        DUE.is("instruction 49", x.instruction(0, 0, 0, 0, 0), FilterProof.FULL);
        DUE.is("BAD before FULL", x.instruction(17, 0, 0, 0, 0), FilterProof.BAD);
        DUE.is("all are there", x.clear(), 48);
        DUE.is("none is there", x.clear(), 0);
        DUE.is("room again", x.instruction(0, 0, 0, 0, 0), 1);
    }

    private static void clear() {
        FilterProof x = Programs.with(2, Programs.op(0, 1, 0, 0, 0));
        Programs.receive(x, 1, 2, 3);
        x.run();
        Programs.say(x, 4, 5);
        x.check();
        DUE.is("clear()", x.clear(), 1);
        DUE.is("place() stays", x.place(), 2);
        DUE.is("the tape stays", x.length(), 2);
        DUE.is("its ints stay", x.at(1), 5);
        DUE.is("result() stays", x.result(), 3);
        DUE.is("steps() stay", x.steps(), 1);
        DUE.is("the packet stays", x.drop(), 3);
    }

    private static void wellMade() {
        int[] end = Programs.op(0, 0, 0, 0, 0);
        wrongAt("no instruction", 0);
        wrongAt("no RETURN", 1, Programs.op(1, 0, 0, 0, 0));
        wrongAt("no RETURN at the end", 2, end, Programs.op(1, 0, 0, 0, 0));
        wrongAt("a -1", 0, Programs.op(1, -1, 0, 0, 0), end);
        wrongAt("a 8", 0, Programs.op(1, 8, 0, 0, 0), end);
        wrongAt("b -1, though not used", 1, end, Programs.op(0, 0, -1, 0, 0));
        wrongAt("b 8, though not used", 0, Programs.op(13, 0, 8, 0, 1), end);
        wrongAt("a 8, though not used", 0, Programs.op(13, 8, 0, 0, 1), end);
        wrongAt("6 with -1", 0, Programs.op(6, 0, 0, -1, 0), end);
        wrongAt("6 with 0", FilterProof.NO, Programs.op(6, 0, 0, 0, 0), end);
        wrongAt("7 with 0", 0, Programs.op(7, 0, 0, 0, 0), end);
        wrongAt("7 with 32", 0, Programs.op(7, 0, 0, 32, 0), end);
        wrongAt("7 with 1", FilterProof.NO, Programs.op(7, 0, 0, 1, 0), end);
        wrongAt("7 with 31", FilterProof.NO, Programs.op(7, 0, 0, 31, 0), end);
        wrongAt("other k are free", FilterProof.NO, Programs.op(3, 0, 0, Integer.MIN_VALUE, 0), end);
        wrongAt("t that is not used", FilterProof.NO, Programs.op(12, 0, 0, 0, -9), end);
        for (int op = 13; op <= 16; op++) {
            wrongAt(op + " to itself", 1, end, Programs.op(op, 0, 0, 0, 1), end);
            wrongAt(op + " back", 1, end, Programs.op(op, 0, 0, 0, 0), end);
            wrongAt(op + " beyond the end", 1, end, Programs.op(op, 0, 0, 0, 3), end);
            wrongAt(op + " to the last one", FilterProof.NO, end, Programs.op(op, 0, 0, 0, 2), end);
        }
        wrongAt("the first one counts", 0, Programs.op(6, 0, 0, -1, 0), Programs.op(7, 0, 0, 0, 0));
        wrongAt("a wrong one before the end", 1, end, Programs.op(7, 0, 0, 0, 0), Programs.op(1, 0, 0, 0, 0));
    }

    private static void wrongAt(String name, int place, int[]... filter) {
        FilterProof x = Programs.with(0, filter);
        boolean well = place == FilterProof.NO;
        Programs.say(x, 1);
        DUE.is(name + ": check()", x.check() == -1, !well);
        if (!well) {
            DUE.is(name + ": place() of check()", x.place(), place);
        }
        DUE.is(name + ": run()", x.run() == FilterProof.BAD, !well);
        DUE.is(name + ": prove()", x.prove() == FilterProof.BAD, !well);
        if (!well) {
            DUE.is(name + ": place() of prove()", x.place(), place);
            DUE.is(name + ": the tape is empty", x.length(), 0);
        }
    }
}
