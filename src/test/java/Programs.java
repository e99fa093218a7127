import java.util.ArrayList;
import java.util.List;

/** Makes objects with filters and tapes; a filter is a row of {operation, a, b, k, t}. */
final class Programs {
    private static final int CALLS = 400;

    private Programs() {
    }

    static FilterProof with(int least, int[]... filter) {
        FilterProof x = new FilterProof(least);
        for (int[] i : filter) {
            x.instruction(i[0], i[1], i[2], i[3], i[4]);
        }
        return x;
    }

    static int[] op(int operation, int a, int b, int k, int t) {
        return new int[] {operation, a, b, k, t};
    }

    /** The proof of a filter, read from as many objects as the 512 calls of each make necessary. */
    static List<Integer> proofOf(int least, int[]... filter) {
        List<Integer> ints = new ArrayList<>();
        FilterProof x = with(least, filter);
        int n = x.prove();
        for (int i = 0; i < n; i++) {
            if (i % CALLS == CALLS - 1) {
                x = with(least, filter);
                x.prove();
            }
            ints.add(x.at(i));
        }
        return ints;
    }

    static void say(FilterProof x, int... ints) {
        for (int v : ints) {
            x.say(v);
        }
    }

    static void receiveZeros(FilterProof x, int count) {
        for (int left = count; left > 0; left -= 8) {
            x.receive(0, Math.min(8, left));
        }
    }

    static void receive(FilterProof x, int... bytes) {
        for (int b : bytes) {
            x.receive(b, 1);
        }
    }
}
