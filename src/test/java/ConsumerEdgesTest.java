import java.util.ArrayList;
import java.util.Arrays;
import java.util.List;

/** The boundary cases of THE CONSUMER, and of promises 10 and 11: check, place. */
public final class ConsumerEdgesTest {
    private static final Due DUE = new Due("ConsumerEdgesTest");
    private static final int MIN = Integer.MIN_VALUE;
    private static final int MAX = Integer.MAX_VALUE;
    private static final int NO = FilterProof.NO;
    private static final int[] END = Programs.op(0, 0, 0, 0, 0);

    /** Byte 3 of packets of 14: its reasons stand at 8, 10 (beginning), 13, 15 (place), its edge at 17. */
    private static final int[] LOAD = {2, 0, 1, 0, 1, 9, -14, 0, 1, 3, 2, 2, 16, 1, 0, 1, 1, 0};
    /** 15 in packets of 1024: edges at 9 and 10, the second one impossible from the point at 11 on. */
    private static final int[] BRANCH = {1, 0, 2, -1024, 0, -1, 2, 16, 1, 0, 1, 2, 2, 1, 0};
    /** 13 with one fact at both its ends: the edge at 10, its reason at 11. */
    private static final int[] GO = {1, 0, 1, 0, 1, 0, 1, 0, 1, 3, 0, 1, 0};

    private ConsumerEdgesTest() {
    }

    public static void main(String[] args) {
        proofs();
        notWellMade();
        tapeEnds();
        howManyFacts();
        points();
        samePoints();
        anyBound();
        howManySteps();
        longestReasons();
        zeroOrOne();
        impossiblePoint();
        stepsOfTheBeginning();
        stepsOfAnAccess();
        stepsOfAnEdge();
        stepsOfASum();
        stepsOfManySums();
        noFactsToAdd();
        whereStepsBegin();
        whereTheLastEnds();
        tooGreat();
        tooGreatForImpossible();
        accesses();
        leadsToADeadOne();
        firstOneIsDead();
        intsBehind();
        firstFault();
        sumsWithoutBounds();
        stepsWithoutBounds();
        accessesWithoutBounds();
        beginningWithLeast();
        placeOfTheLatest();
        checkLeavesAll();
        DUE.end();
    }

    private static FilterProof told(int[] tape, int least, int[]... filter) {
        FilterProof x = Programs.with(least, filter);
        Programs.say(x, tape);
        return x;
    }

    private static FilterProof load() {
        return told(LOAD, 14, Programs.op(8, 2, 0, 3, 0), END);
    }

    private static FilterProof branch() {
        return told(BRANCH, 1024, Programs.op(15, 1, 0, 1024, 2), END, END);
    }

    private static FilterProof go() {
        return told(GO, 14, Programs.op(13, 0, 0, 0, 1), END);
    }

    private static void is(String name, FilterProof x, int fault, int place) {
        DUE.is(name + ": check()", x.check(), -fault);
        DUE.is(name + ": place()", x.place(), fault == 0 ? NO : place);
    }

    private static void changed(Stays.Maker maker, int i, int v, int fault, int place) {
        FilterProof x = maker.make();
        x.change(i, v);
        is("int " + i + " being " + v, x, fault, place);
    }

    /** All of these values at place i are out of bounds there. */
    private static void outOfBounds(Stays.Maker maker, int i, int... values) {
        for (int v : values) {
            changed(maker, i, v, 3, i);
        }
    }

    private static int[] row(int... steps) {
        int[] told = new int[1 + steps.length];
        told[0] = steps.length;
        System.arraycopy(steps, 0, told, 1, steps.length);
        return told;
    }

    private static int[] join(int[]... parts) {
        List<Integer> all = new ArrayList<>();
        for (int[] part : parts) {
            for (int v : part) {
                all.add(v);
            }
        }
        return all.stream().mapToInt(Integer::intValue).toArray();
    }

    private static void proofs() {
        DUE.sentence("0 when the tape is a proof for the filter");
        is("a load", load(), 0, 0);
        is("a branch", branch(), 0, 0);
        is("a jump", go(), 0, 0);
        is("the smallest proof", told(new int[] {0}, 14, END), 0, 0);
        int[] zeros = new int[48 + 47];
        int[][] most = new int[48][];
        Arrays.fill(most, Programs.op(3, 2, 0, 1, 0));
        most[47] = END;
        is("48 instructions", told(zeros, 0, most), 0, 0);
    }

    private static void notWellMade() {
        DUE.sentence("1 the filter is not well made (place: the WRONG one, or how many there are)");
        is("no instruction, no tape", new FilterProof(0), 1, 0);
        is("no instruction, a tape", told(new int[] {0}, 0), 1, 0);
        is("no RETURN at the end", told(new int[] {0, 0, 0}, 0, END, Programs.op(1, 0, 0, 0, 0)), 1, 2);
        is("a wrong one, and a tape that ends", told(new int[0], 0, END, Programs.op(0, 8, 0, 0, 0)), 1, 1);
        is("a wrong one, and a tape with another fault",
            told(new int[] {25}, 0, Programs.op(7, 0, 0, 32, 0), END), 1, 0);
        FilterProof x = load();
        x.instruction(1, 2, 0, 0, 0);
        is("a proof, and one more that is no RETURN", x, 1, 3);
        x.clear();
        is("a proof, and no instruction", x, 1, 0);
    }

    private static void tapeEnds() {
        DUE.sentence("2 the tape ends (its length)");
        endsAnywhere("a load", ConsumerEdgesTest::load, LOAD.length);
        endsAnywhere("a branch", ConsumerEdgesTest::branch, BRANCH.length);
        endsAnywhere("a jump", ConsumerEdgesTest::go, GO.length);
        is("an empty tape", told(new int[0], 0, END), 2, 0);
        is("a tape for one of two", told(new int[] {0}, 0, END, END), 2, 1);
    }

    private static void endsAnywhere(String name, Stays.Maker maker, int length) {
        for (int n = 0; n < length; n++) {
            FilterProof x = maker.make();
            x.cut(n);
            is("the first " + n + " of " + name, x, 2, n);
        }
        FilterProof whole = maker.make();
        whole.cut(length);
        is("all of " + name, whole, 0, 0);
    }

    private static void howManyFacts() {
        DUE.sentence("-1 when it is DEAD, or how many facts it has (0 .. 24)");
        for (int n = 0; n <= 24; n++) {
            is(n + " facts", told(facts(n), 0, END), 0, 0);
            is(n + " facts at the second", told(join(new int[] {0, n}, factsAlone(n), new int[] {0}, reasons(n, 0)),
                0, Programs.op(1, 0, 0, 0, 0), END), 0, 0);
        }
        is("25 facts", told(facts(25), 0, END), 3, 0);
        outOfBounds(ConsumerEdgesTest::load, 0, MIN, MIN + 1, -25, -3, -2, 25, 26, 280, MAX - 1, MAX);
        outOfBounds(ConsumerEdgesTest::load, 7, MIN, -2, 25, MAX);
        outOfBounds(ConsumerEdgesTest::branch, 5, MIN, -2, 25, MAX);
    }

    private static int[] factsAlone(int n) {
        int[] all = new int[3 * n];
        for (int f = 0; f < n; f++) {
            all[3 * f] = 1;
            all[3 * f + 2] = f;
        }
        return all;
    }

    private static int[] reasons(int n, int step) {
        int[] all = new int[2 * n];
        for (int f = 0; f < n; f++) {
            all[2 * f] = 1;
            all[2 * f + 1] = step;
        }
        return all;
    }

    private static int[] facts(int n) {
        return join(new int[] {n}, factsAlone(n), reasons(n, 2));
    }

    private static void points() {
        DUE.sentence("3 a number out of its bounds: how many facts, u, v");
        int[] none = {MIN, MIN + 1, -10, -1, 10, 11, 256, MAX};
        outOfBounds(ConsumerEdgesTest::load, 1, none);
        outOfBounds(ConsumerEdgesTest::load, 2, none);
        outOfBounds(ConsumerEdgesTest::load, 4, none);
        outOfBounds(ConsumerEdgesTest::load, 5, none);
        outOfBounds(ConsumerEdgesTest::go, 5, none);
        outOfBounds(ConsumerEdgesTest::go, 6, none);
        is("from the least to the greatest point", told(new int[] {1, 0, 9, -7, 1, 16}, 7, END), 0, 0);
        is("from the greatest to the least point", told(new int[] {1, 9, 0, 1024, 1, 17}, 7, END), 0, 0);
        for (int p = 1; p <= 8; p++) {
            int first = p == 2 ? 0 : p == 1 ? 2 : 2 * p - 2;
            int other = p == 2 ? 9 : 0;
            is("from point " + p, told(new int[] {1, p, other, 0, 1, first}, 7, END), 0, 0);
            is("to point " + p, told(new int[] {1, other, p, 0, 1, first + 1}, 7, END), 0, 0);
        }
    }

    private static void samePoints() {
        DUE.sentence("(also u = v)");
        for (int p = 0; p <= 9; p++) {
            is("a fact of " + p + " twice", told(new int[] {1, p, p, 5, 1, 2}, 7, END), 3, 2);
            is("a second fact of " + p + " twice", told(new int[] {2, 1, 0, 0, p, p, 5}, 7, END), 3, 5);
        }
        is("no point twice", told(new int[] {1, 10, 10, 5}, 7, END), 3, 1);
    }

    private static void anyBound() {
        DUE.sentence("A fact (u, v, c), u not v, says that u - v is at most c");
        is("the greatest c", told(new int[] {1, 1, 0, MAX, 1, 2}, 7, END), 0, 0);
        is("the least c", told(new int[] {1, 1, 0, MIN, 1, 2}, 7, END), 6, 4);
        is("the least c that holds", told(new int[] {0, 1, 3, 0, MIN, 0, 1, 0}, 7,
            Programs.op(1, 2, 0, MIN, 0), END), 0, 0);
    }

    private static void howManySteps() {
        DUE.sentence("A REASON is how many steps it has (1 .. 12)");
        int[] none = {MIN, MIN + 1, -12, -1, 0, 13, 14, 268, MAX};
        int[] heads = {8, 10, 13, 15};
        for (int head : heads) {
            outOfBounds(ConsumerEdgesTest::load, head, none);
        }
        outOfBounds(ConsumerEdgesTest::branch, 12, none);
        outOfBounds(ConsumerEdgesTest::go, 11, none);
        is("13 steps are not read", told(join(new int[] {1, 1, 0, 0}, row(2, 3, 2, 3, 2, 3, 2, 3, 2, 3, 2, 3, 2)),
            7, END), 3, 4);
    }

    private static void longestReasons() {
        DUE.sentence("how many steps it has (1 .. 12), and their numbers");
        is("for the beginning", told(join(new int[] {1, 1, 9, -14}, row(2, 3, 2, 3, 2, 3, 2, 3, 2, 3, 2, 16)),
            14, END), 0, 0);
        int[] facts = {5, 0, 1, 0, 1, 0, 0, 0, 3, 0, 3, 1, 0, 1, 9, -14};
        int[] reasons = join(row(3), row(2), row(5), row(4, 3), row(2, 16));
        is("for places", told(join(facts, new int[] {0}, reasons,
            row(2, 3, 1, 0, 1, 0, 1, 0, 1, 0, 1, 0), row(1, 2, 3, 1, 0, 1, 0, 1, 0, 1, 0, 4), new int[] {0}),
            14, Programs.op(8, 2, 0, 13, 0), END), 0, 0);
        is("for an edge", told(join(facts, new int[] {1, 0, 1, 0}, reasons, new int[] {0},
            row(2, 3, 1, 0, 1, 0, 1, 0, 1, 0, 1, 0)), 14, Programs.op(13, 0, 0, 0, 1), END), 0, 0);
        FilterProof x = branch();
        x.cut(12);
        Programs.say(x, row(1, 0, 1, 0, 1, 0, 1, 0, 1, 0, 1, 0));
        is("for an impossible edge", x, 0, 0);
    }

    private static void zeroOrOne() {
        DUE.sentence("how many steps, 0 or 1, x");
        int[] none = {MIN, MIN + 1, -2, -1, 2, 3, 256, MAX};
        outOfBounds(ConsumerEdgesTest::load, 17, none);
        outOfBounds(ConsumerEdgesTest::branch, 9, none);
        outOfBounds(ConsumerEdgesTest::branch, 10, none);
        outOfBounds(ConsumerEdgesTest::go, 10, none);
    }

    private static void impossiblePoint() {
        DUE.sentence("0 or 1, x; at it");
        outOfBounds(ConsumerEdgesTest::branch, 11, MIN, MIN + 1, -10, -1, 10, 11, 266, MAX);
        for (int p = 0; p <= 9; p++) {
            if (p != 2) {
                changed(ConsumerEdgesTest::branch, 11, p, 5, 13);
            }
        }
        FilterProof least = branch();
        least.cut(11);
        Programs.say(least, 0, 2, 0, 1);
        is("the least point", least, 0, 0);
        FilterProof greatest = told(new int[] {2, 9, 2, 0, 0, 9, -1024, 0, -1, 1, 1, 1, 16, 0, 1, 9, 3, 0, 2, 1},
            1024, Programs.op(15, 1, 0, 1024, 2), END, END);
        is("the greatest point", greatest, 0, 0);
    }

    private static void stepsOfTheBeginning() {
        DUE.sentence("AT THE BEGINNING there are the facts, in this order");
        int[][] facts = {
            {2, 9, 0}, {9, 2, 0}, {1, 0, 0}, {0, 1, 0}, {3, 0, 0}, {0, 3, 0}, {4, 0, 0}, {0, 4, 0}, {5, 0, 0},
            {0, 5, 0}, {6, 0, 0}, {0, 6, 0}, {7, 0, 0}, {0, 7, 0}, {8, 0, 0}, {0, 8, 0}, {0, 9, -7}, {9, 0, 1024}
        };
        for (int number = 0; number < 18; number++) {
            int[] f = facts[number];
            is("fact " + number, told(new int[] {1, f[0], f[1], f[2], 1, number}, 7, END), 0, 0);
            is("less than fact " + number, told(new int[] {1, f[0], f[1], f[2] - 1, 1, number}, 7, END), 6, 4);
        }
        DUE.sentence("4 a step that is none; at it");
        int[] none = {MIN, MIN + 1, -18, -1, 18, 19, 36, 256, MAX};
        for (int number : none) {
            changed(ConsumerEdgesTest::load, 9, number, 4, 9);
            changed(ConsumerEdgesTest::load, 11, number, 4, 11);
            changed(ConsumerEdgesTest::load, 12, number, 4, 12);
        }
    }

    private static void stepsOfAnAccess() {
        DUE.sentence("by its facts as they are");
        int[] none = {MIN, -1, 2, 3, 4, 5, MAX};
        for (int number : none) {
            changed(ConsumerEdgesTest::load, 14, number, 4, 14);
            changed(ConsumerEdgesTest::load, 16, number, 4, 16);
        }
        is("of the register that it changes", told(LOAD, 14, Programs.op(8, 0, 0, 3, 0), END), 0, 0);
        int[] behind = join(new int[] {2, 0, 1, 0, 1, 9, -14, 1, 0, 1, 0}, row(3), row(2, 16), row(0), row(1),
            new int[] {0}, row(0));
        is("which is none behind it", told(behind, 14, Programs.op(8, 0, 0, 3, 0), END), 4, 22);
        is("which stays when another is changed", told(behind, 14, Programs.op(8, 2, 0, 3, 0), END), 0, 0);
    }

    /**
     * Which numbers are steps of an edge of ins, told by whether a reason of that one step has fault 4.
     * With n facts of (3, 0, 0), (0, 4, 0), (4, 3, 0) at it, or for an access of (0, 1, 0), (1, top, c), (3, 1, 0).
     */
    private static void steps(int[] ins, boolean toT, int n, int... are) {
        boolean access = ins[0] >= 8 && ins[0] <= 12;
        int[][] facts = access
            ? new int[][] {{0, 1, 0}, {1, ins[0] > 10 ? 0 : 9, ins[0] > 10 ? 0 : -14}, {3, 1, 0}}
            : new int[][] {{3, 0, 0}, {0, 4, 0}, {4, 3, 0}};
        int[][] reasons = access
            ? new int[][] {row(3), ins[0] > 10 ? row(2) : row(2, 16), row(4, 3)}
            : new int[][] {row(4), row(7), row(6, 5)};
        int[] head = {n};
        int[] body = {};
        for (int f = 0; f < n; f++) {
            head = join(head, facts[f]);
            body = join(body, reasons[f]);
        }
        int[] wanted = {1, 5, 6, MAX};
        int[] empty = {0};
        int[] before = join(head, toT ? empty : wanted, toT ? wanted : empty, body,
            access ? join(row(0), row(1)) : new int[0], toT && ins[0] != 13 ? new int[] {0, 0} : empty);
        FilterProof x = told(join(before, row(0)), 14, ins, END, END);
        int at = before.length + 1;
        for (int number = -3; number <= 3 + n + n * n; number++) {
            isStep(x, ins, toT, n, at, number, are);
        }
        int[] far = {MIN, MIN + n, MAX - n, MAX};
        for (int number : far) {
            isStep(x, ins, toT, n, at, number, are);
        }
    }

    private static void isStep(FilterProof x, int[] ins, boolean toT, int n, int at, int number, int... are) {
        boolean step = false;
        for (int one : are) {
            step |= one == number;
        }
        x.change(at, number);
        // no step begins at point 5, so one that is a step has the fault of the row
        is(Arrays.toString(ins) + (toT ? " to t" : " to the next") + ", " + n + " facts, step " + number,
            x, step ? 5 : 4, at);
    }

    private static int[] op(int operation, int a, int b, int k) {
        return Programs.op(operation, a, b, k, 2);
    }

    private static void stepsOfAnEdge() {
        DUE.sentence("the STEPS of an edge are, by their numbers");
        int[][] two = {op(1, 6, 0, 7), op(2, 6, 5, 0), op(5, 6, 6, 0), op(6, 6, 0, 7), op(7, 6, 0, 7)};
        for (int[] ins : two) {
            steps(ins, false, 0, 0, 1);
            steps(ins, false, 1, 0, 1, 2);
            steps(ins, false, 3, 0, 1, 2, 3, 4);
        }
        int[][] ofRegister2 = {op(1, 2, 0, 7), op(2, 2, 3, 0), op(5, 2, 2, 0), op(6, 2, 0, 7), op(7, 2, 0, 7)};
        for (int[] ins : ofRegister2) {
            steps(ins, false, 1, 1, 2);
            steps(ins, false, 3, 1, 3, 4);
        }
        DUE.sentence("for 3 with c + k for (1 + a, v, c), c - k for (u, 1 + a, c)");
        steps(op(3, 2, 0, 7), false, 0);
        steps(op(3, 2, 0, 7), false, 3, 0, 1, 2);
        steps(op(3, 6, 0, 7), false, 3, 0, 1, 2);
        DUE.sentence("for 5, a not b, (1 + a, 1 + b, c) is (1 + a, 0, c), and (1 + b, 1 + a, c) is (0, 1 + a, c)");
        steps(op(5, 2, 3, 0), false, 0);
        steps(op(5, 2, 3, 0), false, 3, 1, 2);
        steps(op(5, 3, 2, 0), false, 3, 0, 2);
        steps(op(5, 2, 4, 0), false, 3, 1);
        DUE.sentence("2 with a = b changes nothing");
        steps(op(2, 2, 2, 0), false, 0);
        steps(op(2, 2, 2, 0), false, 3, 0, 1, 2);
        DUE.sentence("8 9 11: (1 + a, 0, 255), for 9 65535, (0, 1 + a, 0)");
        int[] loads = {8, 9, 11};
        for (int load : loads) {
            steps(op(load, 6, 0, 0), false, 2, 0, 1, 2, 3);
            steps(op(load, 6, 0, 0), false, 3, 0, 1, 2, 3, 4);
            steps(op(load, 2, 0, 0), false, 3, 0, 1, 3, 4);
            steps(op(load, 0, 0, 0), false, 3, 3, 4);
        }
        steps(op(10, 6, 0, 0), false, 2, 0, 1);
        steps(op(10, 2, 0, 0), false, 3, 0, 1);
        steps(op(12, 6, 0, 0), false, 2, 0, 1);
        steps(op(12, 0, 0, 0), false, 3, 0, 1, 2);
        DUE.sentence("14 (a not b), to the next one");
        steps(op(13, 2, 3, 0), true, 3, 0, 1, 2);
        steps(op(13, 2, 3, 0), true, 0);
        for (int op = 14; op <= 15; op++) {
            for (int n = 0; n <= 3; n += 3) {
                int[] are = n == 0 ? new int[] {0} : new int[] {0, 1, 2, 3};
                steps(op(op, 2, 3, 0), false, n, are);
                steps(op(op, 2, 3, 0), true, n, are);
            }
        }
        steps(op(15, 2, 2, 0), false, 3, 0, 1, 2, 3);
        steps(op(15, 2, 2, 0), true, 3, 0, 1, 2, 3);
        DUE.sentence("16 (a not b), to t");
        steps(op(16, 2, 3, 0), false, 0);
        steps(op(16, 2, 3, 0), false, 3, 0, 1, 2);
        steps(op(16, 2, 3, 0), true, 0, 0, 1);
        steps(op(16, 2, 3, 0), true, 3, 0, 1, 2, 3, 4);
        DUE.sentence("14, 16 with a = b give none");
        steps(op(14, 2, 2, 0), false, 3, 0, 1, 2);
        steps(op(14, 2, 2, 0), true, 3, 0, 1, 2);
        steps(op(16, 2, 2, 0), false, 3, 0, 1, 2);
        steps(op(16, 2, 2, 0), true, 3, 0, 1, 2);
    }

    private static void stepsOfASum() {
        DUE.sentence("4, a not b: n + n x + y, for the facts x, y at i");
        // the facts are of registers 2 and 3: (3, 0, 0), (0, 4, 0), (4, 3, 0)
        steps(op(4, 2, 3, 0), false, 0);
        steps(op(4, 2, 3, 0), false, 1);
        steps(op(4, 2, 3, 0), false, 3, 1);
        steps(op(4, 4, 3, 0), false, 3, 0, 1, 2);
        steps(op(4, 3, 2, 0), false, 3, 0);
        steps(op(4, 3, 4, 0), false, 3, 0);
        DUE.sentence("4 with a = b leaves no fact about a");
        steps(op(4, 2, 2, 0), false, 3, 1);
        steps(op(4, 3, 3, 0), false, 3, 0);
        steps(op(4, 6, 6, 0), false, 3, 0, 1, 2);
        DUE.sentence("with x = (1 + a, v, c), y = (1 + b, 0, d): (1 + a, v, c + d), v not 1 + b");
        int[] facts = {4, 3, 0, 1, 4, 0, 2, 0, 3, 3, 0, 4, 4};
        int[] reasons = join(row(4), row(6), row(5), row(7));
        int[] sum = op(4, 2, 3, 0);
        sum(sum, facts, reasons, 4 + 4 * 0 + 1, 3, 0, 3);
        sum(sum, facts, reasons, 4 + 4 * 2 + 3, 0, 3, 7);
        for (int x = 0; x <= 4; x++) {
            for (int y = 0; y <= 3; y++) {
                if (!(x == 0 && y == 1 || x == 2 && y == 3)) {
                    noSum(sum, facts, reasons, 4 + 4 * x + y);
                }
            }
        }
        int[] ofB = {4, 3, 4, 1, 4, 0, 2, 4, 3, 3, 0, 4, 4};
        int[] reasonsOfB = join(row(4, 7), row(6), row(6, 5), row(7));
        noSum(sum, ofB, reasonsOfB, 4 + 4 * 0 + 1);
        noSum(sum, ofB, reasonsOfB, 4 + 4 * 2 + 3);
        int[] others = {4, 3, 9, 1, 4, 0, 2, 9, 3, 1024, 0, 4, 4};
        int[] reasonsOfOthers = join(row(4, 16), row(6), row(17, 5), row(7));
        sum(sum, others, reasonsOfOthers, 4 + 4 * 0 + 1, 3, 9, 3);
        sum(sum, others, reasonsOfOthers, 4 + 4 * 2 + 3, 9, 3, 1028);
    }

    private static FilterProof summed(int[] ins, int[] facts, int[] reasons, int number, int u, int v, int c) {
        return told(join(facts, new int[] {1, u, v, c, 0}, reasons, new int[] {0}, row(number)), 14, ins, END, END);
    }

    private static void sum(int[] ins, int[] facts, int[] reasons, int number, int u, int v, int c) {
        is("sum " + number, summed(ins, facts, reasons, number, u, v, c), 0, 0);
        int head = facts.length + 5 + reasons.length + 1;
        is("less than sum " + number, summed(ins, facts, reasons, number, u, v, c - 1), 6, head);
    }

    private static void noSum(int[] ins, int[] facts, int[] reasons, int number) {
        int head = facts.length + 5 + reasons.length + 1;
        is("no sum " + number, summed(ins, facts, reasons, number, 3, 0, MAX), 4, head + 1);
    }

    private static void stepsOfManySums() {
        DUE.sentence("n + n x + y, for the facts x, y at i");
        int[] facts = factsAlone(24);
        int[] reasons = reasons(24, 2);
        int[][] two = {{4, 0, 2}, {3, 0, 1}};
        for (int f = 22; f < 24; f++) {
            System.arraycopy(two[f - 22], 0, facts, 3 * f, 3);
            reasons[2 * f + 1] = f == 22 ? 6 : 4;
        }
        facts = join(new int[] {24}, facts);
        int[] sum = op(4, 2, 3, 0);
        sum(sum, facts, reasons, 24 + 24 * 23 + 22, 3, 0, 3);
        noSum(sum, facts, reasons, 24 + 24 * 23 + 23);
        noSum(sum, facts, reasons, 24 + 24 * 24);
        noSum(sum, facts, reasons, 24 + 24 * 24 + 22);
        noSum(sum, facts, reasons, MAX);
        noSum(sum, facts, reasons, MIN);
        noSum(sum, facts, reasons, -1);
        noSum(sum, facts, reasons, 23);
    }

    private static void noFactsToAdd() {
        DUE.sentence("for the facts x, y at i");
        // behind the facts of the 4 the tape goes on so that, read as a fact more, it would be (3, 0, 5)
        int[] head = {2, 4, 0, 2, 1, 0, 0, 2, 7, 0, 3, 0, 5, MAX};
        int[] tape = join(head, row(6), row(2), new int[] {0});
        int n = 2;
        int at = tape.length + 1;
        FilterProof x = told(join(tape, row(n + n * 3 + 0)), 0, op(4, 2, 3, 0), END);
        is("a fact behind those at i", x, 4, at);
        for (int beyond = n; beyond <= 8; beyond++) {
            x.change(at, n + n * beyond);
            is("fact " + beyond + " of " + n, x, 4, at);
        }
    }

    private static void whereStepsBegin() {
        DUE.sentence("5 a step that does not begin where the one before has ended (the first one: at u)");
        changed(ConsumerEdgesTest::load, 9, 2, 5, 9);
        changed(ConsumerEdgesTest::load, 11, 3, 5, 11);
        changed(ConsumerEdgesTest::load, 12, 17, 5, 12);
        changed(ConsumerEdgesTest::load, 14, 1, 5, 14);
        changed(ConsumerEdgesTest::load, 16, 0, 5, 16);
        changed(ConsumerEdgesTest::branch, 13, 0, 5, 13);
        changed(ConsumerEdgesTest::branch, 14, 1, 5, 14);
        int[] good = {2, 3, 2, 3, 2};
        for (int at = 0; at < good.length; at++) {
            int[] steps = good.clone();
            steps[at] = 5 - steps[at];
            is("step " + at + " of 5", told(join(new int[] {1, 1, 0, 0}, row(steps)), 7, END), 5, 5 + at);
        }
        is("5 of 5", told(join(new int[] {1, 1, 0, 0}, row(good)), 7, END), 0, 0);
    }

    private static void whereTheLastEnds() {
        DUE.sentence("or the last one does not end at v; at it");
        changed(ConsumerEdgesTest::load, 9, 5, 5, 9);
        changed(ConsumerEdgesTest::load, 12, 3, 5, 12);
        is("one step too few", told(join(new int[] {1, 1, 9, 0}, row(2)), 7, END), 5, 5);
        is("one step too many", told(join(new int[] {1, 1, 0, 0}, row(2, 3)), 7, END), 5, 6);
        FilterProof x = branch();
        x.cut(12);
        Programs.say(x, row(1));
        is("not back at the point", x, 5, 13);
        FilterProof y = go();
        y.cut(11);
        Programs.say(y, 1, 0);
        y.change(6, 3);
        is("an edge's row", y, 5, 12);
    }

    private static void tooGreat() {
        DUE.sentence("6 what the row gives is too great; at the number of steps");
        changed(ConsumerEdgesTest::load, 3, 0, 0, 0);
        changed(ConsumerEdgesTest::load, 3, -1, 6, 8);
        changed(ConsumerEdgesTest::load, 6, -14, 0, 0);
        changed(ConsumerEdgesTest::load, 6, -15, 6, 10);
        changed(ConsumerEdgesTest::load, 3, 3, 0, 0);
        changed(ConsumerEdgesTest::load, 3, 4, 6, 13);
        changed(ConsumerEdgesTest::load, 6, -4, 0, 0);
        changed(ConsumerEdgesTest::load, 6, -3, 6, 15);
        changed(ConsumerEdgesTest::load, 3, MIN, 6, 8);
        changed(ConsumerEdgesTest::load, 3, MAX, 6, 13);
        changed(ConsumerEdgesTest::load, 6, MIN, 6, 10);
        changed(ConsumerEdgesTest::load, 6, MAX, 6, 15);
        changed(ConsumerEdgesTest::go, 7, 0, 0, 0);
        changed(ConsumerEdgesTest::go, 7, -1, 6, 11);
        changed(ConsumerEdgesTest::go, 7, 1, 0, 0);
        changed(ConsumerEdgesTest::go, 3, 1, 6, 11);
    }

    private static void tooGreatForImpossible() {
        DUE.sentence("a row that gives (x, x, below 0)");
        changed(ConsumerEdgesTest::branch, 3, -1024, 0, 0);
        changed(ConsumerEdgesTest::branch, 3, -1023, 6, 12);
        changed(ConsumerEdgesTest::branch, 3, -1022, 6, 12);
    }

    /** An access by register 0, which is 0, in packets of 14 bytes. */
    private static void access(int op, int k, int fault, int place) {
        boolean scratch = op >= 11;
        int[] tape = join(new int[] {2, 0, 1, 0, 1, scratch ? 0 : 9, scratch ? 0 : -14, 0}, row(3),
            scratch ? row(2) : row(2, 16));
        is("operation " + op + " at " + k, told(join(tape, row(0), row(1), new int[] {0}), 14,
            Programs.op(op, 2, 0, k, 0), END), fault, tape.length + place);
    }

    private static void accesses() {
        DUE.sentence("a REASON for (0, 1 + b, k) and one for (1 + b, 9, -k - size) (for 11, 12: (1 + b, 0, 31 - k))");
        for (int op = 8; op <= 12; op++) {
            int last = op == 8 ? 13 : op == 9 ? 12 : op == 10 ? 10 : 31;
            access(op, 0, 0, 0);
            access(op, last, 0, 0);
            access(op, last + 1, 6, 2);
            access(op, -1, 6, 0);
            access(op, MIN, 6, 0);
            access(op, MIN + 1, 6, 0);
            access(op, MAX, 6, 2);
            access(op, MAX - 1, 6, 2);
        }
    }

    private static void leadsToADeadOne() {
        DUE.sentence("7 an edge that is told as 0 leads to a dead one, at this 0");
        changed(ConsumerEdgesTest::load, 7, -1, 7, 17);
        changed(ConsumerEdgesTest::branch, 10, 0, 7, 10);
        changed(ConsumerEdgesTest::branch, 4, -1, 7, 9);
        FilterProof go = told(new int[] {0, -1, 0}, 0, Programs.op(13, 0, 0, 0, 1), END);
        is("by 13", go, 7, 2);
        FilterProof over = told(new int[] {0, -1, 0, 0}, 0, Programs.op(13, 0, 0, 0, 2), END, END);
        is("over a dead one", over, 0, 0);
        FilterProof alive = branch();
        alive.change(5, 0);
        is("told as 1, and not dead", alive, 0, 0);
        FilterProof dead = told(new int[] {0, -1, 0, 0}, 0, Programs.op(13, 0, 0, 0, 2),
            Programs.op(8, 2, 0, 5000, 0), END);
        is("of a dead one nothing is read", dead, 0, 0);
    }

    private static void firstOneIsDead() {
        DUE.sentence("or instruction 0 is dead: at place 0 (looked at when all facts were read)");
        is("one instruction", told(new int[] {-1}, 0, END), 7, 0);
        is("one instruction, and more ints", told(new int[] {-1, 5, 5}, 0, END), 7, 0);
        is("two, the tape ends before the second", told(new int[] {-1}, 0, END, END), 2, 1);
        is("two, the tape ends in the second", told(new int[] {-1, 1, 0, 1}, 0, END, END), 2, 4);
        is("two, a fault at the second", told(new int[] {-1, 25}, 0, END, END), 3, 1);
        is("two, a fault in its fact", told(new int[] {-1, 1, 0, 0, 0}, 0, END, END), 3, 3);
        is("two, the second has no fault", told(new int[] {-1, 0}, 0, END, END), 7, 0);
        is("two, both are dead", told(new int[] {-1, -1}, 0, END, END), 7, 0);
        is("two, only the second is dead", told(new int[] {0, -1}, 0, END, END), 0, 0);
    }

    private static void intsBehind() {
        DUE.sentence("8 ints behind the proof, at the first one");
        Stays.Maker[] makers = {ConsumerEdgesTest::load, ConsumerEdgesTest::branch, ConsumerEdgesTest::go};
        int[] lengths = {LOAD.length, BRANCH.length, GO.length};
        int[] any = {MIN, -1, 0, 1, MAX};
        for (int m = 0; m < makers.length; m++) {
            for (int v : any) {
                FilterProof x = makers[m].make();
                x.say(v);
                is("one int " + v, x, 8, lengths[m]);
                x.say(v);
                is("two ints " + v, x, 8, lengths[m]);
                x.cut(lengths[m]);
                is("none", x, 0, 0);
            }
        }
    }

    private static void firstFault() {
        DUE.sentence("its first fault, and the place of it");
        for (int i = 8; i < LOAD.length; i++) {
            FilterProof x = load();
            x.change(i, MIN);
            x.change(LOAD.length - 1, 2);
            x.say(5);
            boolean number = i == 8 || i == 10 || i == 13 || i == 15 || i == 17;
            is("int " + i + " and later ones", x, number ? 3 : 4, i);
        }
        FilterProof y = load();
        y.change(3, -1);
        y.change(11, 18);
        is("what is too great, before a step that is none", y, 6, 8);
        y.change(9, 18);
        is("a step that is none in the row itself", y, 4, 9);
        y.change(4, 10);
        is("a point that is none before both", y, 3, 4);
        y.change(0, 25);
        is("and how many facts before all", y, 3, 0);
    }

    private static void sumsWithoutBounds() {
        DUE.sentence("the consumer's are reckoned without bounds");
        int[] facts = {2, 1, 0, MAX, 0, 1, MAX};
        int[] reasons = join(row(2), row(3));
        int[][] rows = {row(1, 0), row(1, 0, 1, 0), row(1, 0, 1, 0, 1, 0, 1, 0, 1, 0, 1, 0)};
        for (int[] r : rows) {
            FilterProof x = told(join(facts, new int[] {-1}, reasons, new int[] {1, 0}, r), 0,
                Programs.op(13, 0, 0, 0, 1), END);
            is("a sum of " + r[0] + " that would be below 0 in ints", x, 6, 14);
        }
        // register 2 is MIN, register 3 is MAX: their difference is far below what an int can tell
        int[] far = {0, 1, 3, 0, MIN, 2, 3, 0, MIN, 0, 4, -MAX, 1, 3, 4, MIN, 0};
        int[][] filter = {
            Programs.op(1, 2, 0, MIN, 0), Programs.op(1, 3, 0, MAX, 0), Programs.op(13, 0, 0, 0, 3), END, END
        };
        is("a sum that would be above 0 in ints", told(join(far, new int[] {0}, row(0), new int[] {0},
            row(0), row(2), new int[] {0}, row(0, 1)), 0, filter), 0, 0);
        int[] up = {2, 1, 0, MAX, 0, 3, MAX, 1, 1, 3, MAX};
        is("a sum that is too great by far", told(join(up, row(2), row(5), new int[] {0}, row(0, 1)), 0,
            Programs.op(13, 0, 0, 0, 1), END), 6, up.length + 5);
    }

    /** Register 2 with (3, 0, c) and (0, 3, d) before ins, and a fact of one step behind it. */
    private static void behind(int[] ins, int c, int d, int number, int u, int v, int most, int fault) {
        int[] tape = join(new int[] {2, 3, 0, c, 0, 3, d, 1, u, v, most, 0}, row(4), row(5), new int[] {0});
        is(Arrays.toString(ins) + " behind " + c + ", " + d + ": step " + number + " for " + most,
            told(join(tape, row(number)), 0, ins, END, END), fault, tape.length);
    }

    private static void stepsWithoutBounds() {
        DUE.sentence("the consumer's are reckoned without bounds");
        behind(op(3, 2, 0, 1), MAX - 1, 0, 0, 3, 0, MAX, 0);
        behind(op(3, 2, 0, 1), MAX, 0, 0, 3, 0, MAX, 6);
        behind(op(3, 2, 0, MAX), MAX, 0, 0, 3, 0, MAX, 6);
        behind(op(3, 2, 0, MIN), 0, 0, 0, 3, 0, MIN, 0);
        behind(op(3, 2, 0, MAX), 0, 0, 1, 0, 3, -MAX, 0);
        behind(op(3, 2, 0, MIN), 0, 0, 1, 0, 3, MAX, 6);
        behind(op(3, 2, 0, -1), 0, MAX, 1, 0, 3, MAX, 6);
        behind(op(3, 2, 0, -1), 0, MAX - 1, 1, 0, 3, MAX, 0);
        behind(op(1, 2, 0, MIN), 0, 0, 2, 3, 0, MIN, 0);
        behind(op(1, 2, 0, MIN), 0, 0, 3, 0, 3, MAX, 6);
        behind(op(1, 2, 0, MIN + 1), 0, 0, 3, 0, 3, MAX, 0);
        behind(op(1, 2, 0, MAX), 0, 0, 3, 0, 3, -MAX, 0);
        behind(op(6, 2, 0, MAX), 0, 0, 2, 3, 0, MAX, 0);
        behind(op(6, 2, 0, MAX), 0, 0, 2, 3, 0, MAX - 1, 6);
        behind(op(7, 2, 0, 1), 0, 0, 2, 3, 0, MAX, 0);
        behind(op(7, 2, 0, 1), 0, 0, 2, 3, 0, MAX - 1, 6);
        behind(op(7, 2, 0, 31), 0, 0, 2, 3, 0, 1, 0);
        behind(op(7, 2, 0, 31), 0, 0, 2, 3, 0, 0, 6);
        sumsOfFacts();
        branchesWithoutBounds();
    }

    private static void sumsOfFacts() {
        int[][] pairs = {{MAX, MAX}, {MAX - 1, 1}, {MAX, 0}, {MAX, 1}, {0, 0}};
        for (int[] p : pairs) {
            boolean isInt = (long) p[0] + p[1] <= MAX;
            int[] tape = join(new int[] {2, 3, 0, p[0], 4, 0, p[1], 1, 3, 0, MAX}, row(4), row(6), new int[] {0});
            is("the sum of " + p[0] + ", " + p[1], told(join(tape, row(2 + 2 * 0 + 1)), 0, op(4, 2, 3, 0), END),
                isInt ? 0 : 6, tape.length);
        }
        // MIN and MIN, for registers that were set to it: in ints their sum would be 0
        int[] low = {0, 1, 3, 0, MIN, 2, 3, 0, MIN, 4, 0, MIN, 1, 3, 0, MIN};
        is("the sum of MIN, MIN", told(join(low, new int[] {0}, row(0), new int[] {0}, row(0), row(1),
            new int[] {0}, row(3)), 0, Programs.op(1, 2, 0, MIN, 0), Programs.op(1, 3, 0, MIN, 0),
            op(4, 2, 3, 0), END), 0, 0);
    }

    private static void branchesWithoutBounds() {
        int[][] below = {Programs.op(15, 0, 0, MIN, 2), END, END};
        is("15: k - 1 below ints", told(join(new int[] {1, 0, 1, 0, 0, -1}, row(3), new int[] {0, 1, 0},
            row(0, 1)), 0, below), 0, 0);
        is("15: k - 1 gives the least fact", told(join(new int[] {0, 0, 1, 1, 0, MIN, 0, 0}, row(0)), 0, below), 0, 0);
        int[] next = {0, 1, 0, 1, MAX, 0, 0};
        is("15: - k above ints", told(join(next, row(0), new int[] {0}), 0, below), 6, 7);
        int[][] least = {Programs.op(15, 0, 0, MIN + 1, 2), END, END};
        is("15: - k just an int", told(join(next, row(0), new int[] {0}), 0, least), 0, 0);
        is("15: k - 1 just an int", told(join(new int[] {0, 0, 1, 1, 0, MIN, 0, 0}, row(0)), 0, least), 0, 0);
        int[][] most = {Programs.op(15, 0, 0, MAX, 2), END, END};
        is("15: k - 1 for MAX", told(join(new int[] {0, 0, 1, 1, 0, MAX - 1, 0, 0}, row(0)), 0, most), 0, 0);
        is("15: k - 1 for MAX, and less", told(join(new int[] {0, 0, 1, 1, 0, MAX - 2, 0, 0}, row(0)), 0, most), 6, 8);
    }

    private static void accessesWithoutBounds() {
        DUE.sentence("(1 + b, 9, -k - size)");
        for (int op = 8; op <= 10; op++) {
            int size = 1 << (op - 8);
            for (int least = size - 1; least <= size; least++) {
                int[] tape = join(new int[] {1, 0, 9, -least, 3, 0, 3, MAX, 0, 9, -least, 3, 0, -MAX, 0}, row(16),
                    new int[] {0}, row(2), row(0), row(1), row(0));
                is(op + " at -MAX + MAX in packets of " + least, told(join(tape, row(2, 1), new int[] {0}), least,
                    Programs.op(1, 2, 0, -MAX, 0), Programs.op(op, 3, 2, MAX, 0), END), least == size ? 0 : 6, tape.length);
            }
        }
        DUE.sentence("(1 + b, 0, 31 - k)");
        // a register that is told to be 2^31 or more and below 5: in ints 31 - MIN would be below 4
        int[] tape = join(new int[] {0, 1, 0, 4, -MAX, 1, 0, 4, MIN, 0, 2, 0, 4, MIN, 4, 0, 4, 0}, new int[] {0},
            row(1), new int[] {0}, row(0), new int[] {0, 0}, row(0), row(1));
        int[] access = join(row(0), row(1), new int[] {0});
        for (int op = 11; op <= 12; op++) {
            is(op + " at k MIN", told(join(tape, access), 0, Programs.op(1, 3, 0, MAX, 0), Programs.op(3, 3, 0, 1, 0),
                Programs.op(15, 3, 0, 5, 4), END, Programs.op(op, 2, 3, MIN, 0), END), 0, 0);
        }
    }

    private static void beginningWithLeast() {
        DUE.sentence("(0, 9, - LEAST) (9, 0, 1024)");
        int[] leasts = {0, 1, 1023, 1024};
        for (int least : leasts) {
            is("LEAST " + least, told(new int[] {1, 0, 9, -least, 1, 16}, least, END), 0, 0);
            is("more than LEAST " + least, told(new int[] {1, 0, 9, -least - 1, 1, 16}, least, END), 6, 4);
            is("at most 1024", told(new int[] {1, 9, 0, 1024, 1, 17}, least, END), 0, 0);
            is("at most 1023", told(new int[] {1, 9, 0, 1023, 1, 17}, least, END), 6, 4);
        }
    }

    private static void placeOfTheLatest() {
        DUE.sentence("Where the latest prove() or check() found its fault");
        FilterProof x = load();
        DUE.is("at first", x.place(), NO);
        x.change(17, 2);
        is("a fault", x, 3, 17);
        is("the same fault", x, 3, 17);
        x.change(17, 0);
        DUE.is("not looked at yet", x.place(), 17);
        is("no fault", x, 0, 0);
        x.say(0);
        DUE.is("not looked at yet, again", x.place(), NO);
        is("another fault", x, 8, 18);
        x.instruction(1, 0, 0, 0, 0);
        x.cut(3);
        x.change(0, 7);
        x.say(9);
        x.receive(0, 8);
        x.run();
        x.drop();
        x.length();
        x.at(0);
        x.result();
        x.steps();
        x.clear();
        DUE.is("behind all other calls", x.place(), 18);
        DUE.is("prove() of none", x.prove(), FilterProof.BAD);
        DUE.is("place() of prove()", x.place(), 0);
        x.instruction(8, 2, 0, 14, 0);
        x.instruction(0, 0, 0, 0, 0);
        x.instruction(0, 0, 0, 0, 0);
        x.instruction(1, 0, 0, 0, 0);
        is("check() behind prove()", x, 1, 4);
        x.instruction(0, 0, 0, 0, 0);
        DUE.is("prove() behind check()", x.prove(), NO);
        DUE.is("place() of a NO", x.place(), 0);
        x.clear();
        x.instruction(0, 0, 0, 0, 0);
        DUE.is("prove() that finds none", x.prove(), 1);
        DUE.is("place() of none", x.place(), NO);
    }

    private static void checkLeavesAll() {
        DUE.sentence("THE CONSUMER: 0 when the tape is a proof for the filter; else -fault");
        Stays.Maker[] makers = {ConsumerEdgesTest::load, ConsumerEdgesTest::branch, ConsumerEdgesTest::go};
        for (Stays.Maker maker : makers) {
            Stays.refused(DUE, "check() of a proof", maker, 0, FilterProof::check);
            Stays.Maker broken = () -> {
                FilterProof x = maker.make();
                x.cut(x.length() - 1);
                x.check();
                return x;
            };
            Stays.refused(DUE, "check() of no proof", broken, -2, FilterProof::check);
        }
    }
}
