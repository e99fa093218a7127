import java.util.ArrayList;
import java.util.List;

/** Promises 4, 11: prove and place, with proofs that are reckoned by hand. */
public final class ProducerTest {
    private static final Due DUE = new Due("ProducerTest");
    private static final int MIN = Integer.MIN_VALUE;
    private static final int MAX = Integer.MAX_VALUE;
    private static final int[] END = Programs.op(0, 0, 0, 0, 0);

    private ProducerTest() {
    }

    public static void main(String[] args) {
        plain();
        copied();
        joined();
        added();
        impossible();
        atTheEndsOfInts();
        unproven();
        crowded();
        DUE.end();
    }

    private static void proof(String name, int[] due, int least, int[]... filter) {
        FilterProof x = Programs.with(least, filter);
        Programs.say(x, 1, 2, 3);
        DUE.is(name + ": prove()", x.prove(), due.length);
        DUE.is(name + ": place()", x.place(), FilterProof.NO);
        DUE.is(name + ": length()", x.length(), due.length);
        for (int i = 0; i < due.length; i++) {
            DUE.is(name + ": at(" + i + ")", x.at(i), due[i]);
        }
        DUE.is(name + ": at the end", x.at(due.length), 0);
        DUE.is(name + ": check()", x.check(), 0);
        DUE.is(name + ": place() of check()", x.place(), FilterProof.NO);
        DUE.is(name + ": prove() again", x.prove(), due.length);
    }

    private static void no(String name, int place, int least, int[]... filter) {
        FilterProof x = Programs.with(least, filter);
        Programs.say(x, 1, 2, 3);
        DUE.is(name + ": prove()", x.prove(), FilterProof.NO);
        DUE.is(name + ": place()", x.place(), place);
        DUE.is(name + ": the tape is empty", x.length(), 0);
    }

    private static void plain() {
        proof("a RETURN", new int[] {0}, 14, END);
        proof("what is never reached", new int[] {0, -1, -1}, 14, END, Programs.op(8, 2, 0, 5000, 0), END);
        proof("a byte", new int[] {
            2, 0, 1, 0, 1, 9, -14, 0,
            1, 3, 2, 2, 16,
            1, 0, 1, 1, 0
        }, 14, Programs.op(8, 2, 0, 3, 0), END);
        proof("two edges to the next one", new int[] {
            2, 0, 1, 0, 1, 9, -14, 2, 0, 1, 0, 1, 9, -14, 0,
            1, 3, 2, 2, 16,
            0, 1, 0, 1, 1, 0, 1, 0, 1, 1,
            1, 0, 1, 1, 0
        }, 14, Programs.op(15, 1, 0, 20, 1), Programs.op(8, 2, 0, 13, 0), END);
    }

    private static void copied() {
        proof("a copy as a place", new int[] {
            0,
            2, 0, 3, 0, 3, 0, 15,
            2, 0, 4, 0, 4, 0, 15,
            0,
            0, 1, 1, 1, 0,
            0, 2, 0, 3, 2, 2, 1,
            1, 0, 1, 1, 0
        }, 14, Programs.op(6, 2, 0, 15, 0), Programs.op(2, 3, 2, 0, 0), Programs.op(12, 0, 3, 0, 0), END);
    }

    /** Register 2 is 0 in packets of 14 and more, or 3 in packets of 20 and more. */
    private static void joined() {
        int[][] filter = {
            Programs.op(15, 1, 0, 20, 2), Programs.op(1, 2, 0, 3, 0), Programs.op(8, 3, 2, 0, 0), END
        };
        proof("two ways to one place", new int[] {
            3, 0, 3, 0, 2, 9, 0, 3, 9, -14,
            1, 0, 9, -20,
            2, 0, 3, 0, 3, 9, -14,
            0,
            1, 5, 1, 0, 2, 4, 16,
            0, 2, 3, 1, 0, 1, 0, 1, 2,
            0, 1, 2, 2, 1, 0,
            1, 0, 1, 1, 0
        }, 14, filter);
        filter[2][3] = 14;
        no("the greatest of both bounds", 2, 14, filter);
    }

    private static void added() {
        proof("a sum as a place", new int[] {
            0,
            2, 0, 3, 0, 3, 0, 7,
            4, 0, 3, 0, 0, 4, -20, 3, 0, 7, 4, 0, 20,
            2, 0, 4, -20, 4, 0, 27,
            0,
            0, 1, 1, 1, 0,
            0, 1, 0, 1, 3, 1, 1, 1, 2,
            0, 1, 8, 1, 18,
            1, 0, 1, 1, 0
        }, 14, Programs.op(6, 2, 0, 7, 0), Programs.op(1, 3, 0, 20, 0), Programs.op(4, 3, 2, 0, 0),
            Programs.op(12, 0, 3, 4, 0), END);
        no("a sum that is too great", 3, 14, Programs.op(6, 2, 0, 7, 0), Programs.op(1, 3, 0, 20, 0),
            Programs.op(4, 3, 2, 0, 0), Programs.op(12, 0, 3, 5, 0), END);
    }

    private static void impossible() {
        proof("the least point is 0", new int[] {
            1, 3, 0, 0, -1, 0,
            1, 4,
            1, 0, 2, 1, 0, 0
        }, 14, Programs.op(15, 2, 0, 1, 2), Programs.op(8, 3, 2, 4, 0), END);
        proof("the least point is that of register 2", new int[] {
            2, 0, 1, 0, 1, 9, -14,
            2, 0, 1, 0, 1, 9, -14,
            0, 0, 1, 3, 4, -1, 0, -1, -1,
            1, 3, 2, 2, 16,
            1, 0, 1, 1, 0, 1, 0, 1, 1,
            1, 0, 1, 1, 0,
            0, 0, 1, 0,
            0, 1, 3, 2, 0, 1
        }, 14, Programs.op(10, 2, 0, 0, 0), Programs.op(10, 3, 0, 4, 0), Programs.op(14, 2, 3, 0, 4), END,
            Programs.op(14, 3, 2, 0, 6), END, Programs.op(8, 4, 0, 5000, 0), END);
    }

    private static void atTheEndsOfInts() {
        proof("a bound of (3, 9) would be below ints", new int[] {
            1, 0, 9, -14,
            3, 0, 3, MAX, 0, 9, -14, 3, 0, -MAX,
            0,
            1, 16,
            0, 1, 2, 1, 0, 1, 1,
            1, 0, 2, 2, 1, 0
        }, 14, Programs.op(1, 2, 0, -MAX, 0), Programs.op(10, 3, 2, MAX, 0), END);
        no("- k is no int", 1, 14, Programs.op(1, 2, 0, MIN, 0), Programs.op(8, 3, 2, MAX, 0), END);
        proof("k - 1 is no int, so the edge counts as possible", new int[] {0, 0, 0, 0, 0},
            14, Programs.op(15, 0, 0, MIN, 2), END, END);
        no("place and size do not wrap around", 0, 14, Programs.op(10, 3, 0, MAX, 0), END);
    }

    private static void unproven() {
        no("beside the packet", 0, 14, Programs.op(8, 2, 0, 14, 0), END);
        no("before the packet", 0, 14, Programs.op(8, 2, 0, -1, 0), END);
        no("the greatest one is told", 1, 14, Programs.op(8, 2, 0, 14, 0), Programs.op(8, 2, 0, 15, 0), END);
        no("4 bytes are not known", 1, 14, Programs.op(10, 2, 0, 0, 0), Programs.op(11, 2, 2, 0, 0), END);
        no("a shift is not small enough", 1, 14, Programs.op(7, 2, 0, 26, 0), Programs.op(11, 3, 2, 0, 0), END);
        FilterProof x = Programs.with(14, Programs.op(7, 2, 0, 27, 0), Programs.op(11, 3, 2, 0, 0), END);
        DUE.is("a shift is small enough", x.prove() > 0, true);
        x.clear();
        DUE.is("nothing to prove", x.prove(), FilterProof.BAD);
        DUE.is("nothing to prove: place()", x.place(), 0);
        DUE.is("nothing to prove: the tape is empty", x.length(), 0);
    }

    /** Each pair of six registers, copied, subtracted and used as a place, needs two facts more. */
    static int[][] pairs(int count, int before) {
        int[] registers = {0, 2, 3, 4, 5, 6};
        List<int[]> filter = new ArrayList<>();
        if (before == 1) {
            filter.add(Programs.op(15, 0, 0, 0, 3 * count + 1));
        }
        for (int i = 0; i < 6; i++) {
            for (int j = i + 1; j < 6 && filter.size() < 3 * count + before; j++) {
                filter.add(Programs.op(2, 7, registers[i], 0, 0));
                filter.add(Programs.op(5, 7, registers[j], 0, 0));
                filter.add(Programs.op(12, 0, 7, 15, 0));
            }
        }
        filter.add(END);
        return filter.toArray(new int[0][]);
    }

    private static void crowded() {
        FilterProof x = Programs.with(14, pairs(12, 0));
        DUE.is("24 facts: prove()", x.prove() > 0, true);
        DUE.is("24 facts: at(0)", x.at(0), 24);
        DUE.is("24 facts: check()", x.check(), 0);
        no("25 facts, for an impossible edge", 0, 14, pairs(12, 1));
        no("26 facts", 2, 14, pairs(13, 0));
    }
}
