/** The boundary cases of promises 5 to 9: say, cut, change, length, at. */
public final class TapeEdgesTest {
    private static final Due DUE = new Due("TapeEdgesTest");
    private static final int MIN = Integer.MIN_VALUE;
    private static final int MAX = Integer.MAX_VALUE;
    private static final int[] END = Programs.op(0, 0, 0, 0, 0);
    /** No places of a tape of three ints. */
    private static final int[] OUTSIDE = {MIN, MIN + 1, -3, -2, -1, 3, 4, 19999, 20000, 20001, MAX - 1, MAX};

    private TapeEdgesTest() {
    }

    public static void main(String[] args) {
        anyIntIsSaid();
        fullTape();
        sayBehindAProof();
        firstInts();
        tooManyToKeep();
        whatWasCutOffIsGone();
        changedInts();
        noneToChange();
        lengths();
        intsOfIt();
        noneSuch();
        shorterProof();
        DUE.end();
    }

    private static FilterProof three() {
        FilterProof x = Programs.with(1, END);
        Programs.receive(x, 9, 8);
        x.run();
        Programs.say(x, 70, -71, 72);
        x.check();
        return x;
    }

    private static void holds(String name, FilterProof x, int... ints) {
        DUE.is(name + ": length()", x.length(), ints.length);
        for (int i = 0; i < ints.length; i++) {
            DUE.is(name + ": at(" + i + ")", x.at(i), ints[i]);
        }
        DUE.is(name + ": at() behind it", x.at(ints.length), 0);
    }

    private static void anyIntIsSaid() {
        DUE.sentence("An int behind the tape: how many it has");
        int[] any = {MIN, MIN + 1, -1, 0, 1, MAX - 1, MAX};
        FilterProof x = new FilterProof(0);
        for (int n = 0; n < any.length; n++) {
            DUE.is("say(" + any[n] + ")", x.say(any[n]), n + 1);
        }
        holds("what was said", x, any);
    }

    /** No object comes so far within its 512 calls; the class keeps to the words all the same. */
    private static void fullTape() {
        DUE.sentence("FULL when it has 20000");
        FilterProof x = new FilterProof(0);
        for (int n = 1; n <= 19999; n++) {
            x.say(n);
        }
        DUE.is("the 20000th", x.say(MIN), 20000);
        DUE.is("the 20001st", x.say(5), FilterProof.FULL);
        DUE.is("once more", x.say(MAX), FilterProof.FULL);
        DUE.is("length()", x.length(), 20000);
        DUE.is("at(0)", x.at(0), 1);
        DUE.is("at(19998)", x.at(19998), 19999);
        DUE.is("at(19999)", x.at(19999), MIN);
        DUE.is("at(20000)", x.at(20000), 0);
        DUE.is("change(19999)", x.change(19999, 3), true);
        DUE.is("change(20000)", x.change(20000, 3), false);
        DUE.is("cut(20001)", x.cut(20001), false);
        DUE.is("cut(20000)", x.cut(20000), true);
        DUE.is("cut(19999)", x.cut(19999), true);
        DUE.is("room again", x.say(4), 20000);
        DUE.is("full again", x.say(4), FilterProof.FULL);
    }

    private static void sayBehindAProof() {
        DUE.sentence("An int behind the tape: how many it has");
        FilterProof x = Programs.with(0, END);
        DUE.is("prove()", x.prove(), 1);
        DUE.is("say() behind the proof", x.say(33), 2);
        holds("the proof and an int", x, 0, 33);
    }

    private static void firstInts() {
        DUE.sentence("The tape keeps its first n ints: true");
        FilterProof x = three();
        DUE.is("cut(3) of 3", x.cut(3), true);
        holds("all of them", x, 70, -71, 72);
        DUE.is("cut(2) of 3", x.cut(2), true);
        holds("two of them", x, 70, -71);
        DUE.is("cut(1) of 2", x.cut(1), true);
        holds("one of them", x, 70);
        DUE.is("cut(0) of 1", x.cut(0), true);
        holds("none of them", x);
        DUE.is("cut(0) of none", x.cut(0), true);
        holds("still none", x);
        FilterProof y = three();
        DUE.is("cut(0) of 3", y.cut(0), true);
        holds("none of three", y);
    }

    private static void tooManyToKeep() {
        DUE.sentence("false when it has not so many, or n is below 0");
        for (int n : OUTSIDE) {
            if (n != 3) {
                Stays.refused(DUE, "cut(" + n + ") of 3", TapeEdgesTest::three, 0, x -> x.cut(n) ? 1 : 0);
            }
            FilterProof none = new FilterProof(0);
            DUE.is("cut(" + n + ") of none", none.cut(n), false);
            holds("none", none);
        }
        DUE.is("cut(1) of none", new FilterProof(0).cut(1), false);
        FilterProof x = three();
        x.cut(2);
        DUE.is("cut(3) of what has become 2", x.cut(3), false);
        holds("two", x, 70, -71);
    }

    private static void whatWasCutOffIsGone() {
        DUE.sentence("The tape keeps its first n ints");
        FilterProof x = three();
        x.cut(1);
        DUE.is("at(1)", x.at(1), 0);
        DUE.is("change(1)", x.change(1, 5), false);
        DUE.is("say()", x.say(6), 2);
        holds("an int anew", x, 70, 6);
        DUE.is("say()", x.say(7), 3);
        holds("two ints anew", x, 70, 6, 7);
    }

    private static void changedInts() {
        DUE.sentence("Int i of the tape becomes v: true");
        int[] any = {MIN, -1, 0, 1, MAX};
        for (int v : any) {
            FilterProof x = three();
            DUE.is("change(0, " + v + ")", x.change(0, v), true);
            holds("the first int", x, v, -71, 72);
            DUE.is("change(2, " + v + ")", x.change(2, v), true);
            holds("the last int", x, v, -71, v);
            DUE.is("change(1, " + v + ")", x.change(1, v), true);
            holds("the int between", x, v, v, v);
        }
    }

    private static void noneToChange() {
        DUE.sentence("false when there is none such");
        for (int i : OUTSIDE) {
            Stays.refused(DUE, "change(" + i + ", 5) of 3", TapeEdgesTest::three, 0, x -> x.change(i, 5) ? 1 : 0);
            FilterProof none = new FilterProof(0);
            DUE.is("change(" + i + ", 5) of none", none.change(i, 5), false);
            holds("none", none);
        }
        FilterProof x = new FilterProof(0);
        DUE.is("change(0, 5) of none", x.change(0, 5), false);
        x.say(1);
        DUE.is("change(0, 5) of one", x.change(0, 5), true);
        DUE.is("change(1, 5) of one", x.change(1, 5), false);
        holds("one", x, 5);
    }

    private static void lengths() {
        DUE.sentence("How many ints the tape has");
        FilterProof x = Programs.with(0, END);
        DUE.is("at first", x.length(), 0);
        x.say(0);
        DUE.is("one 0", x.length(), 1);
        x.say(0);
        DUE.is("two 0s", x.length(), 2);
        x.prove();
        DUE.is("a proof", x.length(), 1);
        x.cut(0);
        DUE.is("none", x.length(), 0);
    }

    private static void intsOfIt() {
        DUE.sentence("Int i of it");
        FilterProof x = three();
        DUE.is("the first", x.at(0), 70);
        DUE.is("the last", x.at(2), 72);
        FilterProof y = new FilterProof(0);
        y.say(MIN);
        DUE.is("the only one", y.at(0), MIN);
    }

    private static void noneSuch() {
        DUE.sentence("0 when there is none");
        for (int i : OUTSIDE) {
            Stays.refused(DUE, "at(" + i + ") of 3", TapeEdgesTest::three, 0, x -> x.at(i));
            DUE.is("at(" + i + ") of none", new FilterProof(0).at(i), 0);
        }
        DUE.is("at(0) of none", new FilterProof(0).at(0), 0);
        FilterProof x = three();
        x.cut(2);
        DUE.is("at(2) of what has become 2", x.at(2), 0);
        x.prove();
        DUE.is("at(1) of what has become 1", x.at(1), 0);
    }

    private static void shorterProof() {
        DUE.sentence("the tape becomes the proof: how many ints it has");
        FilterProof x = Programs.with(0, END, END);
        Programs.say(x, 5, 6, 7, 8);
        DUE.is("prove() on a longer tape", x.prove(), 2);
        holds("the proof alone", x, 0, -1);
    }
}
