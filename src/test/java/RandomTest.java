import java.util.ArrayList;
import java.util.List;
import java.util.Random;

/** Promises 4, 10, 11, 14, 15, 16: random filters, tapes and packets, held against the naive reading. */
public final class RandomTest {
    private static final int[] EDGES = {
        0, 1, -1, 2, 4, 13, 14, 15, 20, 30, 31, 32, 64, 255, 256, 1000, 1023, 1024, 65535,
        Integer.MAX_VALUE, Integer.MAX_VALUE - 1, Integer.MAX_VALUE - 14, Integer.MIN_VALUE,
        Integer.MIN_VALUE + 1, Integer.MIN_VALUE + 15, Integer.MIN_VALUE + 1024
    };
    private static final int[] LEASTS = {0, 1, 3, 14, 20, 64, 1000, 1024};

    private final Due due = new Due("RandomTest");
    private final Random random;
    private int proven;
    private int unproven;
    private int longestReason;
    private int longestAccess;
    private int longestProof;
    private int impossible;
    private int belowInts;
    private int crowded;
    private FilterProof used;
    private int usedLeast;

    private RandomTest(long seed) {
        random = new Random(seed);
    }

    public static void main(String[] args) {
        long seed = args.length > 0 ? Long.parseLong(args[0]) : 20261115L;
        int filters = args.length > 1 ? Integer.parseInt(args[1]) : 3000;
        RandomTest test = new RandomTest(seed);
        for (int n = 0; n < filters && test.due.allWell(); n++) {
            test.oneFilter(n);
        }
        test.due.is("proven filters are not rare", test.proven > filters / 10, true);
        test.due.is("unproven filters are not rare", test.unproven > filters / 10, true);
        System.out.println(test.proven + " proven, " + test.unproven + " not, of these " + test.crowded
            + " not for an access; longest reason "
            + test.longestReason + ", for an access " + test.longestAccess + ", longest proof " + test.longestProof
            + ", " + test.impossible + " impossible edges, " + test.belowInts + " filters with a bound below ints");
        test.due.end();
    }

    private int pick(int... from) {
        return from[random.nextInt(from.length)];
    }

    private int number() {
        return random.nextInt(4) == 0 ? pick(EDGES) : random.nextInt(24) - 4;
    }

    private int[] anyInstruction(int own, int count, int registers) {
        int op = 1 + random.nextInt(16);
        int a = random.nextInt(registers);
        int b = random.nextInt(registers);
        int k = number();
        if (op == 6) {
            k = Math.abs(k % 65536);
        } else if (op == 7) {
            k = 1 + random.nextInt(31);
        } else if (op >= 8 && op <= 12 && random.nextInt(3) != 0) {
            k = random.nextInt(12);
        }
        int t = own + 1 >= count ? own : own + 1 + random.nextInt(Math.min(count - own - 1, pick(1, 2, 4, 48)));
        return Programs.op(op, a, b, k, t);
    }

    /** A place that is looked at before it is used, as filters do it. */
    private void guarded(List<int[]> filter, int count, int registers) {
        int place = 2 + random.nextInt(Math.max(1, registers - 2));
        int other = random.nextInt(registers);
        int last = count - 1;
        int k = random.nextInt(6);
        switch (random.nextInt(6)) {
            case 0:
                filter.add(Programs.op(pick(8, 9), place, 0, k, 0));
                filter.add(Programs.op(3, place, 0, 1 + random.nextInt(5), 0));
                filter.add(Programs.op(14, 1, place, 0, last));
                filter.add(Programs.op(8, other, place, -1, 0));
                break;
            case 1:
                filter.add(Programs.op(15, 1, 0, 20 + k, last));
                filter.add(Programs.op(10, other, 0, 16, 0));
                break;
            case 2:
                filter.add(Programs.op(6, place, 0, 31, 0));
                filter.add(Programs.op(pick(11, 12), other, place, 0, 0));
                break;
            case 3:
                filter.add(Programs.op(4, place, other, 0, 0));
                filter.add(Programs.op(14, place, 1, 0, filter.size() + 2));
                filter.add(Programs.op(0, 0, 0, 0, 0));
                filter.add(Programs.op(15, place, 0, 0, last));
                filter.add(Programs.op(8, other, place, 0, 0));
                break;
            case 4:
                filter.add(Programs.op(2, place, 1, 0, 0));
                filter.add(Programs.op(5, place, other, 0, 0));
                filter.add(Programs.op(15, place, 0, k, last));
                break;
            default:
                filter.add(Programs.op(2, place, 1, 0, 0));
                filter.add(Programs.op(3, place, 0, number(), 0));
                filter.add(Programs.op(16, place, other, 0, last));
                break;
        }
    }

    private int[][] anyFilter() {
        int count = 1 + random.nextInt(pick(4, 12, 30, 48));
        int registers = pick(2, 3, 4, 8);
        boolean tame = random.nextInt(3) != 0;
        List<int[]> filter = new ArrayList<>();
        while (filter.size() < count - 1) {
            if (random.nextInt(3) == 0 && filter.size() < count - 7) {
                guarded(filter, count, registers);
            } else {
                int[] ins = anyInstruction(filter.size(), count, registers);
                // wild accesses seldom have a proof, so most filters leave them out
                if (!tame || ins[0] < 8 || ins[0] > 12 || random.nextInt(8) == 0) {
                    filter.add(ins);
                }
            }
        }
        filter.add(Programs.op(0, random.nextInt(registers), 0, 0, 0));
        if (random.nextInt(40) == 0) {
            filter.get(random.nextInt(count))[1 + random.nextInt(4)] = pick(-1, 8, 99, 0);
        }
        return filter.toArray(new int[0][]);
    }

    private void oneFilter(int n) {
        int least = pick(LEASTS);
        int[][] filter = anyFilter();
        NaiveProof naive = new NaiveProof(least, filter);
        List<Integer> want = naive.prove();
        int wantPlace = naive.place;
        FilterProof x = Programs.with(least, filter);
        String name = "filter " + n;
        boolean bad = naive.wrong() != -2;
        due.is(name + " prove()", x.prove(), bad ? -1 : want == null ? -2 : want.size());
        due.is(name + " place()", x.place(), wantPlace);
        if (want == null) {
            unproven++;
            due.is(name + " length()", x.length(), 0);
            if (!bad && (filter[wantPlace][0] < 8 || filter[wantPlace][0] > 12)) {
                crowded++;
            }
        } else {
            proven++;
            longestReason = Math.max(longestReason, naive.longestReason);
            longestAccess = Math.max(longestAccess, naive.longestAccess);
            longestProof = Math.max(longestProof, want.size());
            impossible += naive.impossibleEdges;
            due.is(name + " is the proof", Programs.proofOf(least, filter).equals(want), true);
            due.is(name + " check()", x.check(), 0);
            due.is(name + " check() by the naive", naive.check(want), 0);
            changedTapes(name, x, naive, want);
        }
        usedAgain(name, n, filter);
        belowInts += naive.belowInts ? 1 : 0;
        if (!bad) {
            packets(name, x, naive, least, want != null);
        }
    }

    /** An object that has had other filters before answers as a new one does. */
    private void usedAgain(String name, int n, int[][] filter) {
        if (n % 4 == 0) {
            usedLeast = pick(LEASTS);
            used = new FilterProof(usedLeast);
        }
        used.clear();
        for (int[] i : filter) {
            used.instruction(i[0], i[1], i[2], i[3], i[4]);
        }
        FilterProof fresh = Programs.with(usedLeast, filter);
        int proven = fresh.prove();
        due.is(name + " prove() of a used one", used.prove(), proven);
        due.is(name + " place() of a used one", used.place(), fresh.place());
        for (int k = 0; k < 50 && proven > 0; k++) {
            int i = random.nextInt(proven);
            due.is(name + " at(" + i + ") of a used one", used.at(i), fresh.at(i));
        }
        due.is(name + " check() of a used one", used.check(), fresh.check());
    }

    private void changedTapes(String name, FilterProof x, NaiveProof naive, List<Integer> proof) {
        for (int n = 0; n < 40; n++) {
            List<Integer> tape = new ArrayList<>(proof);
            int changes = 1 + random.nextInt(2);
            x.prove();
            for (int c = 0; c < changes; c++) {
                int i = random.nextInt(proof.size());
                int v = random.nextInt(2) == 0 ? tape.get(i) + pick(-1, 1) : pick(-1, 0, 1, 2, 3, 9, 12, 13, 24, 25, number());
                tape.set(i, v);
                x.change(i, v);
            }
            if (random.nextInt(10) == 0) {
                tape = tape.subList(0, random.nextInt(tape.size()));
                x.cut(tape.size());
            }
            String what = name + " changed " + n;
            due.is(what + " check()", x.check(), naive.check(tape));
            due.is(what + " place()", x.place(), naive.place);
        }
    }

    private void packets(String name, FilterProof x, NaiveProof naive, int least, boolean safe) {
        int size = Math.min(1024, least + random.nextInt(40));
        int[] packet = new int[size];
        for (int n = 0; n < 5; n++) {
            x = Programs.with(least, naive.filter);
            for (int i = 0; i < size; i++) {
                packet[i] = random.nextInt(3) == 0 ? random.nextInt(256) : random.nextInt(20);
            }
            for (int i = 0; i < size; i += 8) {
                long bytes = 0;
                int m = Math.min(8, size - i);
                for (int j = 0; j < m; j++) {
                    bytes = bytes << 8 | packet[i + j];
                }
                x.receive(bytes, m);
            }
            int trap = x.run();
            due.is(name + " run()", trap, naive.run(packet));
            due.is(name + " result()", x.result(), naive.returned);
            due.is(name + " steps()", x.steps(), naive.done);
            due.is(name + " is as safe as proven", safe && (trap == 1 || trap == 2), false);
        }
    }
}
