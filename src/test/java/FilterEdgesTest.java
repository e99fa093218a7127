/** The boundary cases of "What it is", of promises 1, 2, 3 and of when a filter is WELL MADE. */
public final class FilterEdgesTest {
    private static final Due DUE = new Due("FilterEdgesTest");
    private static final int MIN = Integer.MIN_VALUE;
    private static final int MAX = Integer.MAX_VALUE;
    private static final int BAD = FilterProof.BAD;
    private static final int NO = FilterProof.NO;
    private static final int FULL = FilterProof.FULL;
    private static final int[] END = Programs.op(0, 0, 0, 0, 0);

    private FilterEdgesTest() {
    }

    public static void main(String[] args) {
        lastCalls();
        leastIsBroughtToItsBounds();
        noInstructions();
        emptyTape();
        emptyPacket();
        nothingTold();
        operations();
        anyOperandsAreTaken();
        mostInstructions();
        badBeforeFull();
        refusedInstructions();
        cleared();
        whatClearLeaves();
        registers();
        masks();
        shifts();
        freeNumbers();
        targets();
        freeTargets();
        firstWrongOne();
        noReturnAtTheEnd();
        DUE.end();
    }

    private static void lastCalls() {
        DUE.sentence("An object is used for at most 512 calls after it has been made");
        FilterProof x = new FilterProof(0);
        for (int n = 1; n <= 511; n++) {
            DUE.is("say() as call " + n, x.say(-n), n);
        }
        DUE.is("at() as call 512", x.at(510), -511);
        FilterProof y = Programs.with(0, Programs.op(3, 2, 0, 1, 0), Programs.op(0, 2, 0, 0, 0));
        for (int n = 3; n <= 510; n++) {
            DUE.is("run() as call " + n, y.run(), 0);
        }
        DUE.is("steps() as call 511", y.steps(), 2);
        DUE.is("result() as call 512", y.result(), 1);
        FilterProof z = Programs.with(14, Programs.op(8, 2, 0, 3, 0), END);
        for (int n = 3; n <= 512; n++) {
            DUE.is("call " + n, n % 2 == 1 ? z.prove() : z.check(), n % 2 == 1 ? 18 : 0);
        }
        FilterProof w = new FilterProof(0);
        for (int n = 1; n <= 510; n += 2) {
            DUE.is("instruction() as call " + n, w.instruction(0, 0, 0, 0, 0), 1);
            DUE.is("clear() as call " + (n + 1), w.clear(), 1);
        }
        DUE.is("receive() as call 511", w.receive(0, 8), 8);
        DUE.is("drop() as call 512", w.drop(), 8);
    }

    private static void leastIsBroughtToItsBounds() {
        DUE.sentence("whose LEAST is brought to 0 .. 1024");
        int[] asked = {MIN, MIN + 1, -1024, -1, 0, 1, 1023, 1024, 1025, 2048, MAX - 1, MAX};
        int[] due = {0, 0, 0, 0, 0, 1, 1023, 1024, 1024, 1024, 1024, 1024};
        for (int n = 0; n < asked.length; n++) {
            String name = "least " + asked[n];
            FilterProof x = Programs.with(asked[n], Programs.op(0, 1, 0, 0, 0));
            if (due[n] > 0) {
                Programs.receiveZeros(x, due[n] - 1);
                DUE.is(name + ", a byte too short", x.run(), BAD);
                x.receive(0, 1);
            }
            DUE.is(name + ", just long enough", x.run(), 0);
            DUE.is(name + ", its length", x.result(), due[n]);
            FilterProof y = Programs.with(asked[n], END);
            Programs.say(y, 1, 0, 9, -due[n], 1, 16);
            DUE.is(name + ", its fact", y.check(), 0);
            y.change(3, -due[n] - 1);
            DUE.is(name + ", a fact that says more", y.check(), -6);
        }
    }

    private static void noInstructions() {
        DUE.sentence("A filter without instructions");
        DUE.is("clear()", new FilterProof(0).clear(), 0);
        DUE.is("the first instruction()", new FilterProof(0).instruction(0, 0, 0, 0, 0), 1);
        DUE.is("run()", new FilterProof(0).run(), BAD);
        FilterProof x = new FilterProof(0);
        DUE.is("check()", x.check(), -1);
        DUE.is("place() of check()", x.place(), 0);
        FilterProof y = new FilterProof(0);
        DUE.is("prove()", y.prove(), BAD);
        DUE.is("place() of prove()", y.place(), 0);
    }

    private static void emptyTape() {
        DUE.sentence("an empty tape");
        FilterProof x = new FilterProof(5);
        DUE.is("length()", x.length(), 0);
        DUE.is("at(0)", x.at(0), 0);
        DUE.is("change(0, 1)", x.change(0, 1), false);
        DUE.is("cut(1)", x.cut(1), false);
        DUE.is("cut(0)", x.cut(0), true);
        DUE.is("the first say()", x.say(7), 1);
    }

    private static void emptyPacket() {
        DUE.sentence("an empty packet");
        DUE.is("drop()", new FilterProof(5).drop(), 0);
        DUE.is("the first receive()", new FilterProof(5).receive(7, 1), 1);
        FilterProof x = Programs.with(0, Programs.op(0, 1, 0, 0, 0));
        DUE.is("run()", x.run(), 0);
        DUE.is("its length", x.result(), 0);
        FilterProof y = Programs.with(0, Programs.op(8, 2, 0, 0, 0), END);
        DUE.is("its first byte", y.run(), 1);
    }

    private static void nothingTold() {
        DUE.sentence("NO when it found none, or there was none");
        FilterProof x = new FilterProof(5);
        DUE.is("place()", x.place(), NO);
        DUE.is("result()", x.result(), 0);
        DUE.is("steps()", x.steps(), 0);
    }

    private static void operations() {
        DUE.sentence("BAD when operation is not 0 .. 16");
        int[] bad = {MIN, MIN + 1, -17, -1, 17, 18, 32, 256, MAX - 1, MAX};
        FilterProof x = new FilterProof(0);
        for (int op : bad) {
            DUE.is("operation " + op, x.instruction(op, 0, 0, 0, 0), BAD);
        }
        for (int op = 0; op <= 16; op++) {
            DUE.is("operation " + op, x.instruction(op, 0, 0, 0, 0), op + 1);
        }
        for (int op : bad) {
            DUE.is("operation " + op, x.instruction(op, 0, 0, 0, 0), BAD);
        }
        DUE.is("as many as were taken", x.clear(), 17);
    }

    private static void anyOperandsAreTaken() {
        DUE.sentence("An instruction more: how many there are");
        int[] any = {MIN, -1, 0, 7, 8, 48, MAX};
        FilterProof x = new FilterProof(0);
        int n = 0;
        for (int v : any) {
            DUE.is("a " + v, x.instruction(6, v, 0, 0, 0), ++n);
            DUE.is("b " + v, x.instruction(2, 0, v, 0, 0), ++n);
            DUE.is("k " + v, x.instruction(7, 0, 0, v, 0), ++n);
            DUE.is("t " + v, x.instruction(13, 0, 0, 0, v), ++n);
        }
        DUE.is("all", x.clear(), n);
    }

    private static FilterProof full() {
        FilterProof x = new FilterProof(0);
        for (int n = 1; n <= 47; n++) {
            x.instruction(3, 2, 0, 1, 0);
        }
        x.instruction(0, 2, 0, 0, 0);
        Programs.receive(x, 5, 6, 7);
        x.run();
        return x;
    }

    private static void mostInstructions() {
        DUE.sentence("then FULL when there are 48");
        FilterProof x = new FilterProof(0);
        for (int n = 1; n <= 48; n++) {
            DUE.is("instruction " + n, x.instruction(0, 0, 0, 0, 0), n);
        }
        for (int op = 0; op <= 16; op++) {
            DUE.is("operation " + op + " as the 49th", x.instruction(op, 0, 0, 0, 0), FULL);
        }
        DUE.is("clear()", x.clear(), 48);
        DUE.sentence("A FILTER is a row of at most 48 INSTRUCTIONS, numbered from 0");
        FilterProof y = full();
        DUE.is("run() of 48", y.run(), 0);
        DUE.is("result() of 48", y.result(), 47);
        DUE.is("steps() of 48", y.steps(), 48);
        DUE.is("prove() of 48", y.prove(), 48 + 47);
        DUE.is("check() of 48", y.check(), 0);
    }

    private static void badBeforeFull() {
        DUE.sentence("BAD when operation is not 0 .. 16; then FULL when there are 48");
        FilterProof x = full();
        DUE.is("operation -1", x.instruction(-1, 0, 0, 0, 0), BAD);
        DUE.is("operation 17", x.instruction(17, 0, 0, 0, 0), BAD);
        DUE.is("operation 16", x.instruction(16, 0, 0, 0, 0), FULL);
    }

    private static void refusedInstructions() {
        DUE.sentence("BAD when operation is not 0 .. 16; then FULL when there are 48");
        int[] refused = {-1, 17, MIN, MAX};
        for (int op : refused) {
            String name = "operation " + op;
            Stays.refused(DUE, name, FilterEdgesTest::rich, BAD, x -> x.instruction(op, 1, 1, 1, 1));
            Stays.refused(DUE, name + ", full", FilterEdgesTest::full, BAD, x -> x.instruction(op, 1, 1, 1, 1));
        }
        Stays.refused(DUE, "a 49th one", FilterEdgesTest::full, FULL, x -> x.instruction(0, 1, 1, 1, 1));
    }

    /** Something of all that an object holds. */
    private static FilterProof rich() {
        FilterProof x = Programs.with(2, Programs.op(8, 2, 0, 1, 0), Programs.op(0, 2, 0, 0, 0));
        Programs.receive(x, 11, 22, 33);
        x.run();
        x.prove();
        x.change(3, 5);
        x.check();
        return x;
    }

    private static void cleared() {
        DUE.sentence("The filter has no instructions again (tape, packet and what was told stay): how many it had");
        int[] counts = {0, 1, 2, 47, 48};
        for (int count : counts) {
            FilterProof x = new FilterProof(0);
            for (int n = 0; n < count; n++) {
                x.instruction(0, 1, 0, 0, 0);
            }
            DUE.is("clear() of " + count, x.clear(), count);
            DUE.is("clear() again", x.clear(), 0);
            DUE.is("run()", x.run(), BAD);
            DUE.is("check()", x.check(), -1);
            DUE.is("place()", x.place(), 0);
        }
        FilterProof y = full();
        y.clear();
        for (int n = 1; n <= 48; n++) {
            DUE.is("instruction " + n + " anew", y.instruction(0, 1, 0, 0, 0), n);
        }
        DUE.is("instruction 49 anew", y.instruction(0, 1, 0, 0, 0), FULL);
        DUE.is("run() anew", y.run(), 0);
        DUE.is("result() anew", y.result(), 3);
        DUE.is("steps() anew", y.steps(), 1);
    }

    private static void whatClearLeaves() {
        DUE.sentence("(tape, packet and what was told stay)");
        FilterProof x = rich();
        int length = x.length();
        DUE.is("clear()", x.clear(), 2);
        DUE.is("place()", x.place(), 13);
        DUE.is("result()", x.result(), 22);
        DUE.is("steps()", x.steps(), 2);
        DUE.is("length()", x.length(), length);
        DUE.is("at(3)", x.at(3), 5);
        x.instruction(10, 2, 0, -1, 0);
        x.instruction(0, 2, 0, 0, 0);
        DUE.is("run() of another filter", x.run(), 1);
        x.clear();
        x.instruction(9, 2, 0, 1, 0);
        x.instruction(0, 2, 0, 0, 0);
        DUE.is("run() on the packet", x.run(), 0);
        DUE.is("the packet's bytes", x.result(), 22 * 256 + 33);
        DUE.is("the packet's length", x.drop(), 3);
        x.receive(0, 1);
        DUE.is("LEAST stays, too", x.run(), BAD);
        x.receive(0, 1);
        x.clear();
        x.instruction(0, 0, 0, 0, 0);
        DUE.is("LEAST is the same", x.run(), 0);
    }

    /** The place where check(), prove() and run() find the filter not well made; NO when it is. */
    private static void wrongAt(String name, int place, int[]... filter) {
        boolean well = place == NO;
        FilterProof x = Programs.with(0, filter);
        DUE.is(name + ": check()", x.check(), well ? -2 : -1);
        DUE.is(name + ": place() of check()", x.place(), well ? 0 : place);
        DUE.is(name + ": run()", x.run() == BAD, !well);
        x.say(1);
        int proven = x.prove();
        DUE.is(name + ": prove()", proven == BAD, !well);
        if (!well) {
            DUE.is(name + ": place() of prove()", x.place(), place);
            DUE.is(name + ": length()", x.length(), 0);
        }
    }

    private static int targetOf(int op, int own) {
        return op >= 13 ? own + 1 : 0;
    }

    private static void registers() {
        DUE.sentence("a and b of each instruction are 0 .. 7");
        int[] any = {MIN, -8, -1, 0, 7, 8, 15, 256, MAX};
        for (int op = 0; op <= 16; op++) {
            for (int r : any) {
                boolean right = r >= 0 && r <= 7;
                wrongAt("a " + r + " of " + op, right ? NO : 0, Programs.op(op, r, 0, 1, targetOf(op, 0)), END);
                wrongAt("b " + r + " of " + op, right ? NO : 1, END, Programs.op(op, 0, r, 1, targetOf(op, 1)), END);
            }
        }
        wrongAt("a 8 of the last one", 1, END, Programs.op(0, 8, 0, 0, 0));
        wrongAt("b -1 of the last one", 1, END, Programs.op(0, 0, -1, 0, 0));
    }

    private static void masks() {
        DUE.sentence("a becomes a and k (k not below 0)");
        int[] wrong = {MIN, MIN + 1, -2, -1};
        int[] right = {0, 1, 31, 32, MAX - 1, MAX};
        for (int k : wrong) {
            wrongAt("6 with " + k, 1, END, Programs.op(6, 0, 0, k, 0), END);
        }
        for (int k : right) {
            wrongAt("6 with " + k, NO, END, Programs.op(6, 0, 0, k, 0), END);
        }
    }

    private static void shifts() {
        DUE.sentence("a becomes a shifted right by k (1 .. 31)");
        int[] wrong = {MIN, MIN + 1, -31, -1, 0, 32, 33, 63, 64, MAX};
        for (int k : wrong) {
            wrongAt("7 with " + k, 1, END, Programs.op(7, 0, 0, k, 0), END);
        }
        for (int k = 1; k <= 31; k++) {
            wrongAt("7 with " + k, NO, END, Programs.op(7, 0, 0, k, 0), END);
        }
    }

    private static void freeNumbers() {
        DUE.sentence("k is as told here");
        int[] any = {MIN, -1, 0, 1, 31, 32, MAX};
        for (int op = 0; op <= 16; op++) {
            for (int k : any) {
                if (op != 6 && op != 7) {
                    wrongAt(op + " with " + k, NO, Programs.op(op, 0, 0, k, targetOf(op, 0)), END);
                }
            }
        }
    }

    private static void targets() {
        DUE.sentence("the t of each 13 .. 16 is above its own number and below how many there are");
        int[] wrong = {MIN, -1, 0, 1, 2, 5, 6, 48, MAX};
        int[] right = {3, 4};
        for (int op = 13; op <= 16; op++) {
            for (int t : wrong) {
                wrongAt(op + " at 2 to " + t + " of 5", 2, END, END, Programs.op(op, 0, 1, 0, t), END, END);
            }
            for (int t : right) {
                wrongAt(op + " at 2 to " + t + " of 5", NO, END, END, Programs.op(op, 0, 1, 0, t), END, END);
            }
            wrongAt(op + " as the first one to itself", 0, Programs.op(op, 0, 1, 0, 0), END);
            wrongAt(op + " as the last one", 1, END, Programs.op(op, 0, 1, 0, 2));
            for (int t = 47; t <= 48; t++) {
                int[][] most = new int[48][];
                for (int i = 0; i < 48; i++) {
                    most[i] = END;
                }
                most[46] = Programs.op(op, 0, 1, 0, t);
                wrongAt(op + " to " + t + " of 48", t == 47 ? NO : 46, most);
            }
        }
        DUE.sentence("below how many there are");
        FilterProof x = Programs.with(0, Programs.op(13, 0, 0, 0, 2), END);
        DUE.is("13 beyond the end", x.run(), BAD);
        x.instruction(0, 0, 0, 0, 0);
        DUE.is("13 to what has come", x.run(), 0);
    }

    private static void freeTargets() {
        DUE.sentence("the t of each 13 .. 16");
        int[] any = {MIN, -1, 0, 1, 2, MAX};
        for (int op = 0; op <= 12; op++) {
            for (int t : any) {
                wrongAt(op + " with t " + t, NO, Programs.op(op, 0, 0, 1, t), END);
            }
        }
    }

    private static void firstWrongOne() {
        DUE.sentence("The first instruction that is not so is WRONG");
        int[] wrong = Programs.op(7, 0, 0, 0, 0);
        wrongAt("the first of two", 0, wrong, wrong, END);
        wrongAt("the second one", 1, END, wrong, END);
        wrongAt("a wrong one, and no RETURN at the end", 0, wrong, Programs.op(1, 0, 0, 0, 0));
        wrongAt("a wrong last one that is no RETURN", 1, END, wrong);
        wrongAt("a wrong RETURN at the end", 1, END, Programs.op(0, -1, 0, 0, 0));
        int[][] most = new int[48][];
        for (int i = 0; i < 48; i++) {
            most[i] = END;
        }
        most[47] = Programs.op(0, 8, 0, 0, 0);
        wrongAt("the last of 48", 47, most);
    }

    private static void noReturnAtTheEnd() {
        DUE.sentence("how many there are is told when all are right, but the last one is no RETURN, or there is none");
        wrongAt("none", 0);
        for (int op = 1; op <= 12; op++) {
            wrongAt(op + " alone", 1, Programs.op(op, 0, 0, 1, 0));
            wrongAt(op + " behind a RETURN", 2, END, Programs.op(op, 0, 0, 1, 0));
        }
        wrongAt("a RETURN alone", NO, END);
        wrongAt("two RETURNs", NO, END, END);
        int[][] most = new int[48][];
        for (int i = 0; i < 48; i++) {
            most[i] = Programs.op(1, 0, 0, 0, 0);
        }
        wrongAt("48 without a RETURN", 48, most);
        most[47] = END;
        wrongAt("48 with a RETURN", NO, most);
    }
}
