import java.util.Arrays;

/** The boundary cases of THE PRODUCER, and of promises 4 and 11: prove, place. */
public final class ProducerEdgesTest {
    private static final Due DUE = new Due("ProducerEdgesTest");
    private static final int MIN = Integer.MIN_VALUE;
    private static final int MAX = Integer.MAX_VALUE;
    private static final int BAD = FilterProof.BAD;
    private static final int NO = FilterProof.NO;
    private static final int[] END = op(0, 0, 0, 0, 0);
    /** An access that is never proven, so that it may only stand where no run comes. */
    private static final int[] NEVER = op(8, 7, 0, 5000, 0);

    private ProducerEdgesTest() {
    }

    public static void main(String[] args) {
        notWellMade();
        tapeIsEmptyThen();
        tapeBecomesTheProof();
        whatProveLeaves();
        packetPlaces();
        packetPlacesFromItsEnd();
        longestAndShortestPackets();
        scratchPlaces();
        masks();
        shifts();
        loadedBytes();
        belowANumber();
        belowARegister();
        sameAsARegister();
        registersAndThemselves();
        impossibleByANumber();
        impossibleByARegister();
        deadOnes();
        greatestOfTheBounds();
        boundsBeyondInts();
        sumsBeyondInts();
        rowsBeyondInts();
        joinedBeyondInts();
        stepsBeyondInts();
        needsWithoutBounds();
        longestRows();
        mostFacts();
        greatestPlace();
        mostInstructions();
        nothingOfEarlierOnes();
        DUE.end();
    }

    private static int[] op(int operation, int a, int b, int k, int t) {
        return Programs.op(operation, a, b, k, t);
    }

    private static void proven(String name, int least, int[]... filter) {
        FilterProof x = Programs.with(least, filter);
        Programs.say(x, 1, 2, 3);
        int n = x.prove();
        DUE.is(name + ": prove()", n > 0, true);
        DUE.is(name + ": place()", x.place(), NO);
        DUE.is(name + ": length()", x.length(), n);
        DUE.is(name + ": check()", x.check(), 0);
    }

    private static void no(String name, int place, int least, int[]... filter) {
        FilterProof x = Programs.with(least, filter);
        Programs.say(x, 1, 2, 3);
        DUE.is(name + ": prove()", x.prove(), NO);
        DUE.is(name + ": place()", x.place(), place);
        DUE.is(name + ": length()", x.length(), 0);
    }

    private static void is(boolean can, String name, int place, int least, int[]... filter) {
        if (can) {
            proven(name, least, filter);
        } else {
            no(name, place, least, filter);
        }
    }

    private static void proof(String name, int[] due, int least, int[]... filter) {
        FilterProof x = Programs.with(least, filter);
        DUE.is(name + ": prove()", x.prove(), due.length);
        for (int i = 0; i < due.length; i++) {
            DUE.is(name + ": at(" + i + ")", x.at(i), due[i]);
        }
        DUE.is(name + ": check()", x.check(), 0);
    }

    private static void bad(String name, int place, int[]... filter) {
        FilterProof x = Programs.with(14, filter);
        Programs.say(x, 1, 2, 3);
        DUE.is(name + ": prove()", x.prove(), BAD);
        DUE.is(name + ": place()", x.place(), place);
        DUE.is(name + ": length()", x.length(), 0);
        DUE.is(name + ": at(0)", x.at(0), 0);
        DUE.is(name + ": the filter stays", x.clear(), filter.length);
    }

    private static void notWellMade() {
        DUE.sentence("BAD when the filter is not well made");
        bad("no instruction", 0);
        bad("no RETURN", 1, op(1, 0, 0, 0, 0));
        bad("no RETURN at the end", 2, END, op(1, 0, 0, 0, 0));
        bad("a wrong one", 1, END, op(7, 0, 0, 32, 0), END);
        bad("the first of two", 0, op(6, 0, 0, -1, 0), op(7, 0, 0, 0, 0));
        bad("a wrong one behind what has no proof", 1, NEVER, op(13, 0, 0, 0, 1), END);
        int[][] most = new int[48][];
        Arrays.fill(most, op(1, 0, 0, 0, 0));
        bad("48 without a RETURN", 48, most);
    }

    private static void tapeIsEmptyThen() {
        DUE.sentence("the tape is empty then, in all these cases");
        FilterProof x = Programs.with(14, op(8, 2, 0, 13, 0), END);
        DUE.is("a proof", x.prove() > 0, true);
        x.instruction(1, 0, 0, 0, 0);
        DUE.is("BAD", x.prove(), BAD);
        DUE.is("length() behind BAD", x.length(), 0);
        DUE.is("at(0) behind BAD", x.at(0), 0);
        DUE.is("change(0) behind BAD", x.change(0, 1), false);
        DUE.is("cut(1) behind BAD", x.cut(1), false);
        DUE.is("say() behind BAD", x.say(5), 1);
        x.clear();
        x.instruction(8, 2, 0, 14, 0);
        x.instruction(0, 0, 0, 0, 0);
        DUE.is("NO", x.prove(), NO);
        DUE.is("length() behind NO", x.length(), 0);
        DUE.is("at(0) behind NO", x.at(0), 0);
        DUE.is("say() behind NO", x.say(5), 1);
        DUE.is("NO again", x.prove(), NO);
        DUE.is("length() behind NO again", x.length(), 0);
        DUE.is("place() behind NO again", x.place(), 0);
    }

    private static void tapeBecomesTheProof() {
        DUE.sentence("the tape becomes the proof: how many ints it has");
        int[] longer = new int[60];
        FilterProof x = Programs.with(14, op(8, 2, 0, 3, 0), END);
        Programs.say(x, longer);
        DUE.is("prove() on a longer tape", x.prove(), 18);
        DUE.is("length()", x.length(), 18);
        DUE.is("at(18)", x.at(18), 0);
        DUE.is("check()", x.check(), 0);
        x.cut(5);
        DUE.is("prove() on a shorter tape", x.prove(), 18);
        DUE.is("check() again", x.check(), 0);
        x.clear();
        x.instruction(0, 0, 0, 0, 0);
        DUE.is("prove() of another filter", x.prove(), 1);
        DUE.is("length() of the other proof", x.length(), 1);
    }

    private static void whatProveLeaves() {
        DUE.sentence("THE PRODUCER: the tape becomes the proof");
        int[] wrongs = {0, 1, 2};
        for (int wrong : wrongs) {
            FilterProof x = Programs.with(2, op(9, 2, 0, 0, 0), op(0, 2, 0, 0, 0));
            Programs.receive(x, 1, 2, 3);
            x.run();
            if (wrong > 0) {
                x.instruction(wrong == 1 ? 1 : 0, 0, 0, 0, 0);
            }
            if (wrong == 2) {
                x.clear();
                x.instruction(10, 2, 0, 0, 0);
                x.instruction(0, 2, 0, 0, 0);
                x.instruction(0, 2, 0, 0, 0);
            }
            int answer = x.prove();
            DUE.is("prove()", wrong == 0 ? answer > 0 : answer == (wrong == 1 ? BAD : NO), true);
            DUE.is("result()", x.result(), 258);
            DUE.is("steps()", x.steps(), 2);
            DUE.is("the filter", x.clear(), wrong == 0 ? 2 : 3);
            DUE.is("the packet", x.drop(), 3);
        }
    }

    private static void packetPlaces() {
        DUE.sentence("no row of at most 12 bounds gives what an 8 .. 12 needs");
        for (int op = 8; op <= 10; op++) {
            int size = 1 << (op - 8);
            int[] leasts = {0, 1, size - 1, size, size + 1, 14, 1023, 1024};
            for (int least : leasts) {
                int[] ks = {MIN, MIN + 1, -size, -1, 0, least - size, least - size + 1, least, MAX - 1, MAX};
                for (int k : ks) {
                    boolean can = k >= 0 && k <= least - size;
                    is(can, op + " at " + k + " of " + least, 0, least, op(op, 2, 0, k, 0), END);
                }
            }
        }
    }

    private static void packetPlacesFromItsEnd() {
        DUE.sentence("a REASON for (0, 1 + b, k) and one for (1 + b, 9, -k - size)");
        for (int op = 8; op <= 10; op++) {
            int size = 1 << (op - 8);
            int[] leasts = {0, size - 1, size, 14, 1024};
            for (int least : leasts) {
                int[] ks = {MIN, MIN + 1, -least - 1, -least, -size, -size + 1, 0, MAX};
                for (int k : ks) {
                    boolean can = k >= -least && k <= -size;
                    is(can, op + " at the length + " + k + " of " + least, 0, least, op(op, 2, 1, k, 0), END);
                }
            }
        }
    }

    private static void longestAndShortestPackets() {
        DUE.sentence("(0, 9, - LEAST) (9, 0, 1024)");
        int[] leasts = {0, 992, 993, 994, 1023, 1024};
        for (int least : leasts) {
            int[] ks = {-least - 1, -least, -994, -993, -992};
            for (int k : ks) {
                boolean can = least + k >= 0 && 1024 + k <= 31;
                is(can, "scratch at the length + " + k + " of " + least, 0, least, op(12, 2, 1, k, 0), END);
            }
        }
    }

    private static void scratchPlaces() {
        DUE.sentence("(for 11, 12: (1 + b, 0, 31 - k))");
        for (int op = 11; op <= 12; op++) {
            int[] ks = {MIN, MIN + 1, -32, -1, 0, 1, 30, 31, 32, 33, MAX - 1, MAX};
            for (int k : ks) {
                is(k >= 0 && k <= 31, op + " at " + k, 0, 1024, op(op, 2, 0, k, 0), END);
                is(k >= 0 && k <= 31, op + " at " + k, 0, 0, op(op, 2, 0, k, 0), END);
            }
        }
    }

    private static void masks() {
        DUE.sentence("6: (1 + a, 0, k) (0, 1 + a, 0)");
        proven("6 with 31", 0, op(6, 2, 0, 31, 0), op(12, 0, 2, 0, 0), END);
        no("6 with 32", 1, 0, op(6, 2, 0, 32, 0), op(12, 0, 2, 0, 0), END);
        no("6 with 31, at -1", 1, 0, op(6, 2, 0, 31, 0), op(12, 0, 2, -1, 0), END);
        proven("6 with 0", 0, op(6, 2, 0, 0, 0), op(12, 0, 2, 31, 0), END);
        no("6 with 0, at 32", 1, 0, op(6, 2, 0, 0, 0), op(12, 0, 2, 32, 0), END);
        no("6 with MAX", 1, 0, op(6, 2, 0, MAX, 0), op(12, 0, 2, 0, 0), END);
        proven("6 with MAX, moved", 0, op(6, 2, 0, MAX, 0), op(3, 2, 0, -MAX, 0), op(15, 2, 0, -31, 4),
            op(12, 0, 2, 31, 0), END);
        no("6 with MAX, moved less", 3, 0, op(6, 2, 0, MAX, 0), op(3, 2, 0, 1 - MAX, 0), op(15, 2, 0, -31, 4),
            op(12, 0, 2, 31, 0), END);
    }

    private static void shifts() {
        DUE.sentence("7: (1 + a, 0, 2^(32 - k) - 1) (0, 1 + a, 0)");
        for (int k = 1; k <= 31; k++) {
            int most = (int) ((1L << (32 - k)) - 1);
            is(most <= 31, "7 with " + k, 1, 0, op(7, 2, 0, k, 0), op(11, 3, 2, 0, 0), END);
            int[][] moved = {op(7, 2, 0, k, 0), op(3, 2, 0, -most, 0), op(15, 2, 0, -9, 4), op(11, 3, 2, 31, 0), END};
            proven("7 with " + k + ", moved", 0, moved);
            moved[3] = op(11, 3, 2, 32, 0);
            no("7 with " + k + ", moved and one further", 3, 0, moved);
            no("7 with " + k + ", at -1", 1, 0, op(7, 2, 0, k, 0), op(11, 3, 2, -1, 0), END);
        }
    }

    private static void loadedBytes() {
        DUE.sentence("8 9 11: (1 + a, 0, 255), for 9 65535, (0, 1 + a, 0)");
        for (int least = 255; least <= 256; least++) {
            is(least == 256, "8 as a place of " + least, 1, least, op(8, 2, 0, 0, 0), op(8, 3, 2, 0, 0), END);
            is(least == 256, "11 as a place of " + least, 1, least, op(11, 2, 0, 0, 0), op(8, 3, 2, 0, 0), END);
        }
        no("8 at -1", 1, 1024, op(8, 2, 0, 0, 0), op(8, 3, 2, -1, 0), END);
        no("11 at -1", 1, 1024, op(11, 2, 0, 0, 0), op(8, 3, 2, -1, 0), END);
        for (int k = -1; k <= 1; k++) {
            is(k == 0, "9 at " + k, 3, 2, op(9, 2, 0, 0, 0), op(15, 2, 0, 32, 3), END, op(11, 3, 2, k, 0), END);
        }
        int[][] two = {op(9, 2, 0, 0, 0), op(3, 2, 0, 31 - 65535, 0), op(15, 2, 0, 0, 4), op(11, 3, 2, 0, 0), END};
        proven("9, moved", 1024, two);
        two[1][3]++;
        no("9, moved less", 3, 1024, two);
        no("10 is not known", 1, 1024, op(10, 2, 0, 0, 0), op(8, 3, 2, 0, 0), END);
        no("10 from below is not known", 3, 1024, op(10, 2, 0, 0, 0), op(15, 2, 0, 5, 3), END, op(8, 3, 2, 0, 0), END);
    }

    private static void belowANumber() {
        DUE.sentence("15, to the next one: (0, 1 + a, -k); to t: (1 + a, 0, k - 1)");
        for (int off = -1; off <= 1; off++) {
            int[][] filter = {
                op(10, 2, 0, 0, 0), op(15, 2, 0, 0, 3), op(15, 2, 0, 32 + off, 4), END, op(11, 3, 2, 0, 0), END
            };
            is(off <= 0, "15 below " + (32 + off), 4, 4, filter);
            filter[2][3] = 32;
            filter[1][3] = off;
            is(off >= 0, "15 not below " + off, 4, 4, filter);
        }
    }

    private static void belowARegister() {
        DUE.sentence("14 (a not b), to the next one: (1 + b, 1 + a, 0); to t: (1 + a, 1 + b, -1)");
        for (int off = -1; off <= 1; off++) {
            is(off == 0, "14 to t, at " + off, 3, 1, op(8, 2, 0, 0, 0), op(14, 2, 1, 0, 3), END,
                op(8, 3, 2, off, 0), END);
            is(off == 0, "14 to the next one, at " + (off - 1), 3, 1, op(8, 2, 0, 0, 0), op(3, 2, 0, 1, 0),
                op(14, 1, 2, 0, 4), op(8, 3, 2, off - 1, 0), END);
        }
    }

    private static void sameAsARegister() {
        DUE.sentence("16 (a not b), to t: (1 + a, 1 + b, 0) (1 + b, 1 + a, 0)");
        for (int off = -1; off <= 1; off++) {
            is(off == 0, "16 to t, at " + (off - 1), 3, 1, op(8, 2, 0, 0, 0), op(16, 2, 1, 0, 3), END,
                op(8, 3, 2, off - 1, 0), END);
            no("16 to the next one, at " + (off - 1), 2, 1, op(8, 2, 0, 0, 0), op(16, 2, 1, 0, 3),
                op(8, 3, 2, off - 1, 0), END);
        }
    }

    private static void registersAndThemselves() {
        DUE.sentence("2 with a = b changes nothing; 4 with a = b leaves no fact about a; 14, 16 with a = b give none");
        proven("2 with a = b", 0, op(6, 2, 0, 31, 0), op(2, 2, 2, 0, 0), op(12, 0, 2, 0, 0), END);
        no("4 with a = b", 2, 0, op(6, 2, 0, 1, 0), op(4, 2, 2, 0, 0), op(12, 0, 2, 0, 0), END);
        int[] places = {-1, 0, 31, 32};
        for (int k : places) {
            is(k >= 0 && k <= 31, "5 with a = b, at " + k, 2, 0, op(7, 2, 0, 1, 0), op(5, 2, 2, 0, 0),
                op(12, 0, 2, k, 0), END);
        }
        no("14 with a = b, to t", 2, 0, op(14, 2, 2, 0, 2), END, NEVER, END);
        no("14 with a = b, to the next one", 1, 0, op(14, 2, 2, 0, 2), NEVER, END);
        no("16 with a = b, to t", 2, 0, op(16, 2, 2, 0, 2), END, NEVER, END);
        no("16 with a = b, to the next one", 1, 0, op(16, 2, 2, 0, 2), NEVER, END);
    }

    private static void impossibleByANumber() {
        DUE.sentence("if some row gives (x, x, below 0) the edge is impossible");
        int[] leasts = {1, 20, 1023, 1024};
        for (int least : leasts) {
            proven("15 below " + least, least, op(15, 1, 0, least, 2), END, NEVER, END);
            no("15 below one more than " + least, 2, least, op(15, 1, 0, least + 1, 2), END, NEVER, END);
            proven("15 not below 1025 of " + least, least, op(15, 1, 0, 1025, 2), NEVER, END);
            no("15 not below 1024 of " + least, 1, least, op(15, 1, 0, 1024, 2), NEVER, END);
        }
        proof("told from the least point on", new int[] {1, 0, 2, -20, 0, -1, 2, 16, 1, 0, 1, 0, 2, 0, 1},
            20, op(15, 1, 0, 20, 2), END, END);
    }

    private static void impossibleByARegister() {
        DUE.sentence("if some row gives (x, x, below 0) the edge is impossible");
        for (int k = -1; k <= 1; k++) {
            int[][] below = {op(2, 2, 1, 0, 0), op(3, 2, 0, k, 0), op(14, 2, 1, 0, 4), END, NEVER, END};
            is(k >= 0, "14 to t, the length + " + k, 4, 0, below);
            int[][] next = {op(2, 2, 1, 0, 0), op(3, 2, 0, k, 0), op(14, 2, 1, 0, 4), NEVER, END};
            is(k < 0, "14 to the next one, the length + " + k, 3, 0, next);
            int[][] same = {op(2, 2, 1, 0, 0), op(3, 2, 0, k, 0), op(16, 2, 1, 0, 4), END, NEVER, END};
            is(k != 0, "16 to t, the length + " + k, 4, 0, same);
            int[][] other = {op(2, 2, 1, 0, 0), op(3, 2, 0, k, 0), op(16, 2, 1, 0, 4), NEVER, END};
            no("16 to the next one, the length + " + k, 3, 0, other);
        }
    }

    private static void deadOnes() {
        DUE.sentence("An instruction where only impossible edges, or those of dead ones, lead is dead");
        proof("behind a RETURN", new int[] {0, -1, -1}, 0, END, NEVER, END);
        proof("jumped over", new int[] {0, -1, 0, 0}, 0, op(13, 0, 0, 0, 2), NEVER, END);
        proof("behind a dead one", new int[] {0, -1, -1, -1, -1}, 0, END, op(14, 2, 3, 0, 3), NEVER, NEVER, END);
        proof("an impossible edge and one of a dead one", new int[] {1, 3, 0, 0, -1, -1, 0, 1, 4, 1, 0, 2, 1, 0, 0},
            0, op(15, 2, 0, 1, 3), op(13, 0, 0, 0, 2), NEVER, END);
        proof("an impossible edge and one that is possible", new int[] {1, 0, 3, 0, 0, 0, 1, 5, 0, 1, 0, 2, 0, 1, 0},
            0, op(15, 2, 0, 0, 2), op(1, 3, 0, 0, 0), END);
    }

    private static void greatestOfTheBounds() {
        DUE.sentence("its bounds are otherwise the greatest of those of all other edges that lead there"
            + " (none where one has none)");
        for (int k = 31; k <= 32; k++) {
            int[][] filter = {
                op(8, 4, 0, 0, 0), op(15, 4, 0, 9, 4), op(1, 2, 0, 5, 0), op(13, 0, 0, 0, 5), op(1, 2, 0, k, 0),
                op(12, 0, 2, 0, 0), END
            };
            is(k == 31, "5 or " + k, 5, 1, filter);
            filter[2][3] = k;
            filter[4][3] = 5;
            is(k == 31, k + " or 5", 5, 1, filter);
        }
        int[][] none = {
            op(8, 4, 0, 0, 0), op(15, 4, 0, 9, 4), op(6, 2, 0, 5, 0), op(13, 0, 0, 0, 5), op(10, 2, 0, 0, 0),
            op(12, 0, 2, 0, 0), END
        };
        no("5 or none", 5, 4, none);
        int[][] noneFirst = none.clone();
        noneFirst[2] = none[4];
        noneFirst[4] = none[2];
        no("none or 5", 5, 4, noneFirst);
        int[][] both = none.clone();
        both[4] = none[2];
        proven("5 or 5", 4, both);
        int[][] impossible = none.clone();
        impossible[1] = op(15, 4, 0, 0, 4);
        proven("5 or what is impossible", 4, impossible);
    }

    private static void boundsBeyondInts() {
        DUE.sentence("(c beyond ints counts as none");
        proven("3: c + k is MAX", 14, op(1, 2, 0, MAX - 1, 0), op(3, 2, 0, 1, 0), op(3, 2, 0, -3, 0),
            op(12, 0, 2, 34 - MAX, 0), END);
        no("3: c + k is MAX + 1", 3, 14, op(1, 2, 0, MAX - 1, 0), op(3, 2, 0, 2, 0), op(3, 2, 0, -3, 0),
            op(12, 0, 2, 33 - MAX, 0), END);
        proven("3: c - k is MAX", 14, op(1, 2, 0, MIN + 2, 0), op(3, 2, 0, -1, 0), op(3, 2, 0, 5, 0),
            op(8, 3, 2, MAX - 5, 0), END);
        no("3: c - k is MAX + 1", 3, 14, op(1, 2, 0, MIN + 2, 0), op(3, 2, 0, -2, 0), op(3, 2, 0, 5, 0),
            op(8, 3, 2, MAX - 4, 0), END);
        // a bound of MIN still makes the next edge of the 15 impossible
        proven("3: c + k is MIN", 14, op(1, 2, 0, MIN + 1, 0), op(3, 2, 0, -1, 0), op(15, 2, 0, MIN + 1, 4), NEVER, END);
        no("3: c + k is MIN - 1", 3, 14, op(1, 2, 0, MIN + 1, 0), op(3, 2, 0, -2, 0), op(15, 2, 0, MIN + 1, 4),
            NEVER, END);
        proven("3: c - k is MIN", 14, op(1, 2, 0, MAX, 0), op(3, 2, 0, 1, 0), op(15, 2, 0, MAX, 4), END, NEVER, END);
        no("3: c - k is MIN - 1", 4, 14, op(1, 2, 0, MAX, 0), op(3, 2, 0, 2, 0), op(15, 2, 0, MAX, 4), END, NEVER, END);
    }

    private static void sumsBeyondInts() {
        DUE.sentence("(c beyond ints counts as none");
        proven("4: c + d is MAX", 14, op(1, 2, 0, MAX - 7, 0), op(6, 3, 0, 7, 0), op(4, 2, 3, 0, 0),
            op(3, 2, 0, -5, 0), op(12, 0, 2, 36 - MAX, 0), END);
        no("4: c + d is MAX + 1", 4, 14, op(1, 2, 0, MAX - 7, 0), op(6, 3, 0, 8, 0), op(4, 2, 3, 0, 0),
            op(3, 2, 0, -5, 0), op(12, 0, 2, 35 - MAX, 0), END);
        proven("4: c + d from below is MAX", 14, op(1, 2, 0, MIN + 8, 0), op(1, 3, 0, -7, 0), op(4, 2, 3, 0, 0),
            op(3, 2, 0, 5, 0), op(8, 4, 2, MAX - 5, 0), END);
        no("4: c + d from below is MAX + 1", 4, 14, op(1, 2, 0, MIN + 8, 0), op(1, 3, 0, -8, 0), op(4, 2, 3, 0, 0),
            op(3, 2, 0, 5, 0), op(8, 4, 2, MAX - 4, 0), END);
        proven("4: c + d is MIN", 14, op(1, 2, 0, MIN + 7, 0), op(1, 3, 0, -7, 0), op(4, 2, 3, 0, 0),
            op(15, 2, 0, MIN + 1, 5), NEVER, END);
        no("4: c + d is MIN - 1", 4, 14, op(1, 2, 0, MIN + 7, 0), op(1, 3, 0, -8, 0), op(4, 2, 3, 0, 0),
            op(15, 2, 0, MIN + 1, 5), NEVER, END);
    }

    private static void rowsBeyondInts() {
        DUE.sentence("(c beyond ints counts as none");
        for (int x = 10; x <= 11; x++) {
            is(x == 10, "a row that gives MAX or more, " + x, 3, 1024, op(6, 2, 0, x, 0), op(1, 3, 0, 10 - MAX, 0),
                op(5, 2, 3, 0, 0), op(8, 4, 2, 10 - MAX, 0), END);
        }
        for (int b = 1; b <= 2; b++) {
            is(b == 1, "a row that gives MIN or less, " + b, 4, 14, op(1, 2, 0, -MAX, 0), op(1, 3, 0, b, 0),
                op(5, 2, 3, 0, 0), op(15, 2, 0, MIN + 1, 5), NEVER, END);
        }
    }

    private static void joinedBeyondInts() {
        DUE.sentence("(none where one has none)");
        // register 2 less register 3 is MIN on one way; on the other MIN, or less than ints can tell
        for (int b = 1; b <= 2; b++) {
            is(b == 1, "MIN, and MIN - " + (b - 1), 8, 14, op(8, 4, 0, 0, 0), op(1, 2, 0, -MAX, 0), op(15, 4, 0, 9, 5),
                op(1, 3, 0, 1, 0), op(13, 0, 0, 0, 6), op(1, 3, 0, b, 0), op(5, 2, 3, 0, 0), op(15, 2, 0, MIN + 1, 9),
                NEVER, END);
        }
    }

    private static void stepsBeyondInts() {
        DUE.sentence("also of the steps of its edges");
        proven("1: - k is MAX", 14, op(1, 2, 0, MIN + 1, 0), op(3, 2, 0, 5, 0), op(8, 3, 2, MAX - 5, 0), END);
        no("1: - k is MAX + 1", 2, 14, op(1, 2, 0, MIN, 0), op(3, 2, 0, 5, 0), op(8, 3, 2, MAX - 4, 0), END);
        // register 3 is 5 more than register 2, so that a row with the step of the 15 would give an int again
        for (int off = 0; off <= 1; off++) {
            is(off == 1, "15: - k of MIN + " + off, 7, 14, op(10, 2, 0, 0, 0), op(2, 3, 2, 0, 0), op(3, 3, 0, 5, 0),
                op(15, 2, 0, MIN + off, 6), op(15, 3, 0, MIN + 10, 7), END, END, op(8, 4, 3, MAX - 4 - off, 0), END);
        }
        for (int off = 0; off <= 1; off++) {
            is(off == 1, "15: k - 1 of MIN + " + off, 3, 14, op(1, 2, 0, MAX, 0), op(15, 2, 0, MIN + off, 3), END,
                NEVER, END);
        }
        proof("15: k - 1 of MIN", new int[] {0, 0, 0, 0, 0}, 14, op(15, 0, 0, MIN, 2), END, END);
        proof("15: k - 1 of MIN + 1", new int[] {1, 0, 1, 0, 0, -1, 1, 3, 0, 1, 0, 2, 0, 1}, 14,
            op(15, 0, 0, MIN + 1, 2), END, END);
        proven("7 with 1: MAX is an int", 14, op(7, 2, 0, 1, 0), op(3, 2, 0, -MAX, 0), op(15, 2, 0, -31, 4),
            op(12, 0, 2, 31, 0), END);
    }

    private static void needsWithoutBounds() {
        DUE.sentence("(Places are reckoned without bounds.)");
        for (int op = 8; op <= 10; op++) {
            int size = 1 << (op - 8);
            for (int least = size - 1; least <= size; least++) {
                is(least == size, op + " at -MAX + MAX in packets of " + least, 1, least, op(1, 2, 0, -MAX, 0),
                    op(op, 3, 2, MAX, 0), END);
            }
        }
        for (int k = 31; k <= 32; k++) {
            is(k == 31, "scratch at MAX - MAX + " + k, 1, 0, op(1, 2, 0, MAX, 0), op(11, 3, 2, k - MAX, 0), END);
        }
        proven("scratch at MAX - MAX", 0, op(1, 2, 0, MAX, 0), op(11, 3, 2, -MAX, 0), END);
        no("scratch at MAX + MIN", 1, 0, op(1, 2, 0, MAX, 0), op(11, 3, 2, MIN, 0), END);
        no("a place that would be 0 in ints", 1, 1024, op(1, 2, 0, MIN, 0), op(8, 3, 2, MIN, 0), END);
        no("an end that would be below 0 in ints", 0, 1024, op(10, 3, 0, MAX, 0), END);
    }

    /** An edge is impossible by a row that goes round once for each number that register 2 may be. */
    static int[][] rounds(int most) {
        return new int[][] {op(6, 2, 0, most, 0), op(6, 3, 0, most, 0), op(14, 2, 3, 0, 4), op(14, 2, 3, 0, 4), END};
    }

    private static void longestRows() {
        DUE.sentence("of the fewest steps (at most 12) whose row gives so much or less");
        proof("11 steps from point 0", new int[] {
            0, 1, 0, 3, 0, 2, 0, 3, 0, 4, 0, 4, 3, 0, 3, 0, 4, 0, 4, 4, 3, 0, 0,
            0, 1, 1,
            0, 1, 0, 1, 1,
            0, 1, 0, 1, 1, 1, 2, 0,
            0, 1, 0, 11, 0, 3, 2, 3, 2, 3, 2, 3, 2, 3, 1
        }, 14, rounds(4));
        proof("13 steps from point 0 are too many", new int[] {
            0, 0, 0, 1, 4, 3, 0, 0,
            0,
            0,
            0, 1, 0, 0,
            0, 1, 3, 2, 1, 0
        }, 14, rounds(5));
    }

    private static void mostFacts() {
        DUE.sentence("or more than 24 facts are needed");
        FilterProof x = Programs.with(14, ProducerTest.pairs(12, 0));
        DUE.is("24 facts: prove()", x.prove() > 0, true);
        DUE.is("24 facts: at(0)", x.at(0), 24);
        DUE.is("24 facts: check()", x.check(), 0);
        no("25 facts", 0, 14, ProducerTest.pairs(12, 1));
        no("26 facts, and then 24", 2, 14, ProducerTest.pairs(13, 0));
    }

    private static void greatestPlace() {
        DUE.sentence("the place is the greatest such instruction");
        no("the second of two", 1, 14, NEVER, NEVER, END);
        no("the first of two, the second is dead", 0, 14, NEVER, op(13, 0, 0, 0, 3), NEVER, END);
        no("the second of three", 1, 14, NEVER, NEVER, op(8, 2, 0, 0, 0), END);
        no("the one at the end of 48", 46, 14, allOf(NEVER));
        int[][] crowded = ProducerTest.pairs(13, 0);
        int[][] both = crowded.clone();
        both[0] = NEVER;
        no("too many facts behind an access", 2, 14, both);
        int[][] last = crowded.clone();
        last[38] = op(12, 0, 7, 32, 0);
        no("an access behind too many facts", 38, 14, last);
    }

    private static int[][] allOf(int[] ins) {
        int[][] all = new int[48][];
        Arrays.fill(all, ins);
        all[47] = END;
        return all;
    }

    private static void mostInstructions() {
        DUE.sentence("A FILTER is a row of at most 48 INSTRUCTIONS");
        proven("48 with 47 loads", 14, allOf(op(8, 2, 0, 13, 0)));
        proven("48 with 47 branches", 14, allOf(op(14, 2, 1, 0, 47)));
        FilterProof x = Programs.with(14, allOf(op(8, 2, 0, 13, 0)));
        // 2 facts and 9 or 5 ints of reasons for each load, 5 for the beginning, 1 for the RETURN
        DUE.is("ints of 47 loads", x.prove(), 46 * (7 + 9) + (7 + 5) + 5 + 1);
    }

    private static void again(FilterProof x, String name, int answer, int[]... filter) {
        x.clear();
        for (int[] i : filter) {
            x.instruction(i[0], i[1], i[2], i[3], i[4]);
        }
        DUE.is(name + ": prove()", x.prove(), answer);
        DUE.is(name + ": check()", x.check(), answer > 0 ? 0 : answer == BAD ? -1 : -2);
    }

    private static void nothingOfEarlierOnes() {
        DUE.sentence("THE PRODUCER takes a filter that is well made");
        FilterProof x = new FilterProof(14);
        for (int round = 0; round < 2; round++) {
            again(x, "four that are reached", 4 + 3, op(1, 2, 0, 5000, 0), op(1, 3, 0, 1, 0), op(1, 4, 0, 1, 0), END);
            again(x, "all but the first are dead", 4, END, NEVER, NEVER, END);
            again(x, "a bound that the first filter had not", 18, op(8, 2, 0, 3, 0), END);
            again(x, "none", BAD);
            again(x, "no proof", NO, op(8, 2, 0, 14, 0), END);
            again(x, "impossible to t", 16, op(15, 1, 0, 14, 2), END, NEVER, END);
            again(x, "impossible to the next one", 15, op(15, 1, 0, 1025, 2), NEVER, END);
        }
    }
}
