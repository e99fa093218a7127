import java.util.ArrayList;
import java.util.List;

/** Promises 10, 11: check and place, with proofs that are written out by hand. */
public final class ConsumerTest {
    private static final Due DUE = new Due("ConsumerTest");
    private static final int MIN = Integer.MIN_VALUE;
    private static final int MAX = Integer.MAX_VALUE;
    private static final int[] END = Programs.op(0, 0, 0, 0, 0);

    /** Byte 3 of packets that have 14; what stands at which place is told by the rows. */
    private static final int[] PROOF = {
        2, 0, 1, 0, 1, 9, -14,
        0,
        1, 3, 2, 2, 16,
        1, 0, 1, 1, 0
    };

    private ConsumerTest() {
    }

    public static void main(String[] args) {
        faults();
        numbers();
        dead();
        lengths();
        beginning();
        changedRegisters();
        sums();
        jumps();
        accesses();
        withoutBounds();
        DUE.end();
    }

    private static void is(String name, FilterProof x, int fault, int place) {
        DUE.is(name + ": check()", x.check(), -fault);
        DUE.is(name + ": place()", x.place(), fault == 0 ? FilterProof.NO : place);
        DUE.is(name + ": place() again", x.place(), fault == 0 ? FilterProof.NO : place);
    }

    private static FilterProof told() {
        FilterProof x = Programs.with(14, Programs.op(8, 2, 0, 3, 0), Programs.op(0, 2, 0, 0, 0));
        Programs.say(x, PROOF);
        return x;
    }

    private static void changed(int i, int v, int fault, int place) {
        FilterProof x = told();
        x.change(i, v);
        is("int " + i + " becomes " + v, x, fault, place);
    }

    private static void faults() {
        is("the proof", told(), 0, 0);
        for (int n = 0; n < PROOF.length; n++) {
            FilterProof x = told();
            x.cut(n);
            is("the first " + n, x, 2, n);
        }
        FilterProof more = told();
        more.say(0);
        more.say(0);
        is("two ints behind it", more, 8, PROOF.length);
        FilterProof wrong = told();
        wrong.instruction(1, 0, 0, 0, 0);
        is("no RETURN at the end", wrong, 1, 3);
        FilterProof none = told();
        none.clear();
        is("no instruction", none, 1, 0);
        FilterProof mended = told();
        mended.change(17, 2);
        is("broken", mended, 3, 17);
        mended.change(17, 0);
        is("mended", mended, 0, 0);
    }

    private static void numbers() {
        changed(0, 25, 3, 0);
        changed(0, -2, 3, 0);
        changed(1, 10, 3, 1);
        changed(1, -1, 3, 1);
        changed(1, 1, 3, 2);
        changed(2, 10, 3, 2);
        changed(2, 0, 3, 2);
        changed(5, 1, 3, 5);
        changed(7, MAX, 3, 7);
        changed(8, 0, 3, 8);
        changed(8, 13, 3, 8);
        changed(17, 2, 3, 17);
        changed(17, -1, 3, 17);
        changed(17, 1, 2, 18);
        changed(9, 18, 4, 9);
        changed(9, -1, 4, 9);
        changed(9, MIN, 4, 9);
        changed(9, MAX, 4, 9);
        changed(9, 2, 5, 9);
        changed(9, 5, 5, 9);
        changed(11, 3, 5, 11);
        changed(12, 17, 5, 12);
        changed(12, 5, 5, 12);
        changed(6, -15, 6, 10);
        changed(3, -1, 6, 8);
        changed(3, 4, 6, 13);
        changed(3, 3, 0, 0);
        changed(6, -3, 6, 15);
        changed(6, -4, 0, 0);
        changed(14, 2, 4, 14);
        changed(14, 1, 5, 14);
        changed(16, 2, 4, 16);
    }

    private static void dead() {
        changed(7, -1, 7, 17);
        FilterProof x = Programs.with(0, END, END);
        Programs.say(x, -1);
        is("the first one is dead, the facts go on", x, 2, 1);
        x.say(25);
        is("the first one is dead, a fault in the facts", x, 3, 1);
        x.change(1, 0);
        is("the first one is dead", x, 7, 0);
        x.change(0, 0);
        x.change(1, -1);
        is("the second one is dead", x, 0, 0);
        FilterProof y = Programs.with(0, Programs.op(13, 0, 0, 0, 1), END);
        Programs.say(y, 2, 1, 0, 0, 0, 1, -1, -1, 1, 2, 1, 3);
        is("a fact that does not hold", y, 6, 10);
        FilterProof z = Programs.with(1024, Programs.op(15, 1, 0, 1024, 2), END, END);
        Programs.say(z, 1, 0, 2, -1024, 0, -1, 2, 16, 1, 0);
        is("impossible, yet to be told", z, 2, 10);
        z.say(0);
        is("told as possible", z, 7, 10);
        z.change(10, 1);
        z.say(10);
        is("no such point", z, 3, 11);
        z.change(11, 2);
        Programs.say(z, 2, 1, 0);
        is("impossible from register 1 on", z, 0, 0);
        z.change(11, 0);
        is("another point", z, 5, 13);
        z.change(13, 0);
        z.change(14, 1);
        is("impossible from 0 on", z, 0, 0);
        z.change(3, -1023);
        is("not impossible with less", z, 6, 12);
        FilterProof w = Programs.with(1024, Programs.op(15, 1, 0, 1024, 2), END, END);
        Programs.say(w, 2, 9, 2, 0, 0, 9, -1024, 0, -1, 1, 1, 1, 16, 0, 1, 9, 3, 0, 2, 1);
        is("impossible from the packet's length on", w, 0, 0);
        w.change(17, 1);
        is("a row that does not begin there", w, 5, 17);
    }

    private static void lengths() {
        FilterProof x = Programs.with(14, END);
        Programs.say(x, 1, 1, 9, -14, 12, 2, 3, 2, 3, 2, 3, 2, 3, 2, 3, 2, 16);
        is("12 steps", x, 0, 0);
        FilterProof y = Programs.with(14, END);
        Programs.say(y, 1, 1, 0, 0, 13, 2, 3, 2, 3, 2, 3, 2, 3, 2, 3, 2, 3, 2);
        is("13 steps", y, 3, 4);
        for (int n = 24; n <= 25; n++) {
            FilterProof z = Programs.with(0, END);
            z.say(n);
            for (int f = 0; f < n; f++) {
                Programs.say(z, 1, 0, f);
            }
            for (int f = 0; f < n; f++) {
                Programs.say(z, 1, 2);
            }
            is(n + " facts", z, n == 24 ? 0 : 3, 0);
        }
    }

    private static void beginning() {
        int[][] facts = {
            {2, 9, 0}, {9, 2, 0}, {1, 0, 0}, {0, 1, 0}, {3, 0, 0}, {0, 3, 0}, {4, 0, 0}, {0, 4, 0}, {5, 0, 0},
            {0, 5, 0}, {6, 0, 0}, {0, 6, 0}, {7, 0, 0}, {0, 7, 0}, {8, 0, 0}, {0, 8, 0}, {0, 9, -7}, {9, 0, 1024}
        };
        for (int number = 0; number < facts.length; number++) {
            FilterProof x = Programs.with(7, END);
            Programs.say(x, 1, facts[number][0], facts[number][1], facts[number][2], 1, number);
            is("fact " + number + " of the beginning", x, 0, 0);
            x.change(3, facts[number][2] - 1);
            is("less than fact " + number + " of the beginning", x, 6, 4);
        }
    }

    /** One that holds at the beginning, with its reason. */
    private static int[] fact(int u, int v, int c, int... row) {
        int[] told = new int[4 + row.length];
        told[0] = u;
        told[1] = v;
        told[2] = c;
        told[3] = row.length;
        System.arraycopy(row, 0, told, 4, row.length);
        return told;
    }

    /**
     * A filter of ins and two RETURNs, where (u, v, c) at the end of one edge has the step as its reason:
     * that must do, and not for c - 1; or the step is none, when c is null.
     */
    private static void step(int[] ins, boolean toT, int step, int u, int v, Integer c, int[]... facts) {
        String name = "operation " + ins[0] + " (" + ins[1] + ", " + ins[2] + ", " + ins[3] + ") step " + step;
        int less = c == null || c == MIN ? 0 : 1;
        for (int off = 0; off <= less; off++) {
            List<Integer> tape = new ArrayList<>();
            tape.add(facts.length);
            for (int[] f : facts) {
                tape.addAll(List.of(f[0], f[1], f[2]));
            }
            List<Integer> wanted = List.of(1, u, v, c == null ? MAX : c - off);
            tape.addAll(toT ? List.of(0) : wanted);
            tape.addAll(toT ? wanted : List.of(0));
            for (int[] f : facts) {
                for (int i = 3; i < f.length; i++) {
                    tape.add(f[i]);
                }
            }
            if (ins[0] >= 8 && ins[0] <= 12) {
                tape.addAll(List.of(1, 0, 1, 1));
            }
            if (toT && ins[0] != 13) {
                tape.add(0);
            }
            tape.add(0);
            int head = tape.size();
            tape.addAll(List.of(1, step));
            if (!toT && ins[0] > 13) {
                tape.add(0);
            }
            FilterProof x = Programs.with(14, ins, END, END);
            for (int n : tape) {
                x.say(n);
            }
            if (c == null) {
                is(name + " is none", x, 4, head + 1);
            } else {
                is(name + (off == 0 ? "" : " gives no less"), x, off == 0 ? 0 : 6, head);
            }
        }
    }

    private static int[] op(int operation, int a, int b, int k) {
        return Programs.op(operation, a, b, k, 2);
    }

    private static void changedRegisters() {
        int[] r2High = fact(3, 0, 0, 4);
        int[] r2Low = fact(0, 3, 0, 5);
        int[] r2r3 = fact(3, 4, 0, 4, 7);
        int[] r3r2 = fact(4, 3, 0, 6, 5);
        int[] zero = fact(0, 1, 0, 3);
        int[] packet = fact(1, 9, -14, 2, 16);
        int[] scratch = fact(1, 0, 0, 2);
        step(op(1, 2, 0, 7), false, 1, 3, 0, 7, r2High);
        step(op(1, 2, 0, 7), false, 2, 0, 3, -7, r2High);
        step(op(1, 2, 0, 7), false, 3, 0, 3, null, r2High);
        step(op(1, 2, 0, 7), false, 0, 3, 0, null, r2High);
        step(op(1, 4, 0, 7), false, 0, 3, 0, 0, r2High);
        step(op(2, 2, 3, 0), false, 0, 3, 4, 0);
        step(op(2, 2, 3, 0), false, 1, 4, 3, 0);
        step(op(2, 2, 3, 0), false, 2, 4, 3, null);
        step(op(2, 2, 3, 0), false, 0, 3, 0, null, r2High);
        step(op(2, 2, 2, 0), false, 0, 3, 0, 0, r2High);
        step(op(2, 2, 2, 0), false, 1, 3, 0, null, r2High);
        step(op(3, 2, 2, 5), false, 0, 3, 0, 5, r2High);
        step(op(3, 2, 2, 5), false, 0, 0, 3, -5, r2Low);
        step(op(3, 2, 2, 5), false, 0, 4, 3, -5, r3r2);
        step(op(3, 4, 2, 5), false, 0, 4, 3, 0, r3r2);
        step(op(3, 2, 2, 5), false, 1, 4, 3, null, r3r2);
        step(op(5, 2, 3, 0), false, 0, 3, 0, 0, r2r3);
        step(op(5, 2, 3, 0), false, 0, 0, 3, 0, r3r2);
        step(op(5, 2, 3, 0), false, 0, 3, 0, null, r2High);
        step(op(5, 2, 3, 0), false, 1, 3, 0, null, r2r3);
        step(op(5, 2, 4, 0), false, 0, 3, 4, null, r2r3);
        step(op(5, 2, 2, 0), false, 1, 3, 0, 0, r2High);
        step(op(5, 2, 2, 0), false, 2, 0, 3, 0, r2High);
        step(op(5, 2, 2, 0), false, 0, 3, 0, null, r2High);
        step(op(6, 2, 0, 15), false, 0, 3, 0, 15);
        step(op(6, 2, 0, 15), false, 1, 0, 3, 0);
        step(op(6, 2, 0, MAX), false, 0, 3, 0, MAX);
        step(op(6, 2, 0, 15), false, 0, 3, 0, null, r2High);
        step(op(7, 2, 0, 28), false, 0, 3, 0, 15);
        step(op(7, 2, 0, 31), false, 0, 3, 0, 1);
        step(op(7, 2, 0, 1), false, 0, 3, 0, MAX);
        step(op(7, 2, 0, 1), false, 1, 0, 3, 0);
        step(op(8, 2, 0, 0), false, 2, 3, 0, 255, zero, packet);
        step(op(8, 2, 0, 0), false, 3, 0, 3, 0, zero, packet);
        step(op(8, 0, 0, 0), false, 0, 0, 1, null, zero, packet);
        step(op(9, 2, 0, 0), false, 2, 3, 0, 65535, zero, packet);
        step(op(9, 2, 0, 0), false, 3, 0, 3, 0, zero, packet);
        step(op(10, 2, 0, 0), false, 2, 3, 0, null, zero, packet);
        step(op(10, 2, 0, 0), false, 0, 0, 1, 0, zero, packet);
        step(op(11, 2, 0, 0), false, 2, 3, 0, 255, zero, scratch);
        step(op(11, 2, 0, 0), false, 3, 0, 3, 0, zero, scratch);
        step(op(11, 0, 0, 0), false, 0, 0, 1, null, zero, scratch);
        step(op(12, 0, 0, 0), false, 0, 0, 1, 0, zero, scratch);
        step(op(12, 0, 0, 0), false, 2, 0, 1, null, zero, scratch);
    }

    private static void sums() {
        int[] high2 = fact(3, 0, 3, 4);
        int[] low2 = fact(0, 3, 1, 5);
        int[] high3 = fact(4, 0, 5, 6);
        int[] low3 = fact(0, 4, 2, 7);
        int[] packet = fact(3, 9, -14, 4, 16);
        int[] r2r3 = fact(3, 4, 0, 4, 7);
        int[] r3r2 = fact(4, 3, 0, 6, 5);
        int[] sum = op(4, 2, 3, 0);
        step(sum, false, 3, 3, 0, 8, high2, high3);
        step(sum, false, 4, 3, 0, 8, high3, high2);
        step(sum, false, 4, 3, 0, null, high2, high3);
        step(sum, false, 2, 3, 0, null, high2, high3);
        step(sum, false, 5, 3, 0, null, high2, high3);
        step(sum, false, 6, 3, 0, null, high2, high3);
        step(sum, false, 7, 3, 0, null, high2, high3);
        step(sum, false, 0, 3, 0, null, high2, high3);
        step(sum, false, 1, 4, 0, 5, high2, high3);
        step(sum, false, 3, 0, 3, 3, low2, low3);
        step(sum, false, 3, 0, 3, null, low2, high3);
        step(sum, false, 3, 0, 3, null, high2, low3);
        step(sum, false, 3, 3, 9, -9, packet, high3);
        step(sum, false, 3, 3, 4, null, r2r3, high3);
        step(sum, false, 3, 4, 3, null, r3r2, low3);
        step(sum, false, 0, 3, 0, null);
        step(op(4, 0, 3, 0), false, 2, 1, 0, null, high3);
        step(op(4, 2, 2, 0), false, 3, 3, 0, null, high2, high3);
        step(op(4, 2, 2, 0), false, 2, 3, 0, null, high2, high3);
        step(op(4, 2, 2, 0), false, 0, 3, 0, null, high2, high3);
        step(op(4, 2, 2, 0), false, 1, 4, 0, 5, high2, high3);
    }

    private static void jumps() {
        int[] r2High = fact(3, 0, 0, 4);
        step(op(13, 2, 3, 0), true, 0, 3, 0, 0, r2High);
        step(op(13, 2, 3, 0), true, 1, 3, 0, null, r2High);
        step(op(14, 2, 3, 0), false, 1, 4, 3, 0, r2High);
        step(op(14, 2, 3, 0), false, 0, 3, 0, 0, r2High);
        step(op(14, 2, 3, 0), false, 2, 4, 3, null, r2High);
        step(op(14, 2, 3, 0), true, 1, 3, 4, -1, r2High);
        step(op(14, 2, 3, 0), true, 2, 3, 4, null, r2High);
        step(op(14, 2, 2, 0), false, 1, 4, 3, null, r2High);
        step(op(14, 2, 2, 0), true, 1, 4, 3, null, r2High);
        step(op(15, 2, 2, 9), false, 1, 0, 3, -9, r2High);
        step(op(15, 2, 2, 9), true, 1, 3, 0, 8, r2High);
        step(op(15, 2, 2, 9), true, 2, 3, 0, null, r2High);
        step(op(16, 2, 3, 0), false, 1, 3, 4, null, r2High);
        step(op(16, 2, 3, 0), true, 1, 3, 4, 0, r2High);
        step(op(16, 2, 3, 0), true, 2, 4, 3, 0, r2High);
        step(op(16, 2, 3, 0), true, 3, 4, 3, null, r2High);
        step(op(16, 2, 2, 0), true, 1, 4, 3, null, r2High);
        FilterProof x = Programs.with(14, Programs.op(15, 1, 0, 20, 1), END);
        Programs.say(x, 0, 0, 0);
        is("both edges lead to the next one", x, 2, 3);
        x.say(0);
        is("both are told", x, 0, 0);
    }

    /** An access by register 0, which is 0, in packets of 14 bytes. */
    private static void access(int op, int k, int fault, int place) {
        FilterProof x = Programs.with(14, Programs.op(op, 2, 0, k, 0), END);
        boolean scratch = op >= 11;
        Programs.say(x, 2, 0, 1, 0, 1, scratch ? 0 : 9, scratch ? 0 : -14, 0, 1, 3);
        Programs.say(x, scratch ? new int[] {1, 2} : new int[] {2, 2, 16});
        int first = x.length();
        Programs.say(x, 1, 0, 1, 1, 0);
        is("operation " + op + " at " + k, x, fault, first + place);
    }

    private static void accesses() {
        access(8, 0, 0, 0);
        access(8, 13, 0, 0);
        access(8, 14, 6, 2);
        access(8, -1, 6, 0);
        access(9, 12, 0, 0);
        access(9, 13, 6, 2);
        access(10, 10, 0, 0);
        access(10, 11, 6, 2);
        access(10, MAX, 6, 2);
        access(10, MIN, 6, 0);
        access(11, 0, 0, 0);
        access(11, 31, 0, 0);
        access(11, 32, 6, 2);
        access(11, -1, 6, 0);
        access(12, 31, 0, 0);
        access(12, 32, 6, 2);
        access(12, MIN, 6, 0);
    }

    private static void withoutBounds() {
        FilterProof x = Programs.with(0, Programs.op(13, 0, 0, 0, 1), END);
        Programs.say(x, 2, 1, 0, MAX, 0, 1, MAX, -1, 1, 2, 1, 3, 1, 1, 2, 0, 1);
        is("a sum beyond ints is not below 0", x, 6, 14);
        FilterProof y = Programs.with(0, Programs.op(3, 0, 0, MAX, 0), END);
        Programs.say(y, 1, 1, 0, MAX, 1, 1, 0, MAX, 1, 2, 0, 1, 0);
        is("a step beyond ints is not less", y, 6, 11);
        FilterProof z = Programs.with(0, Programs.op(15, 0, 0, MIN, 2), END, END);
        Programs.say(z, 1, 0, 1, 0, 0, -1, 1, 3, 0, 1, 0, 2, 0, 1);
        is("nothing is below the least int", z, 0, 0);
        FilterProof w = Programs.with(0, Programs.op(1, 2, 0, MIN, 0), END);
        Programs.say(w, 0, 1, 0, 3, MAX, 0, 1, 1);
        is("- k is no int", w, 6, 6);
    }
}
