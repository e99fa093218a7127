/** Promises 5 to 9: say, cut, change, length, at. */
public final class TapeTest {
    private static final Due DUE = new Due("TapeTest");

    private TapeTest() {
    }

    public static void main(String[] args) {
        FilterProof x = new FilterProof(0);
        DUE.is("at(0) of nothing", x.at(0), 0);
        DUE.is("change(0) of nothing", x.change(0, 5), false);
        DUE.is("cut(0) of nothing", x.cut(0), true);
        DUE.is("cut(1) of nothing", x.cut(1), false);
        DUE.is("say()", x.say(Integer.MIN_VALUE), 1);
        DUE.is("say()", x.say(-7), 2);
        DUE.is("say()", x.say(Integer.MAX_VALUE), 3);
        DUE.is("length()", x.length(), 3);
        DUE.is("at(0)", x.at(0), Integer.MIN_VALUE);
        DUE.is("at(1)", x.at(1), -7);
        DUE.is("at(2)", x.at(2), Integer.MAX_VALUE);
        outside(x);
        DUE.is("change(1)", x.change(1, 12), true);
        DUE.is("at(1) changed", x.at(1), 12);
        DUE.is("at(0) not changed", x.at(0), Integer.MIN_VALUE);
        DUE.is("length() not changed", x.length(), 3);
        DUE.is("cut(-1)", x.cut(-1), false);
        DUE.is("cut(4)", x.cut(4), false);
        DUE.is("cut(3)", x.cut(3), true);
        DUE.is("length() of all", x.length(), 3);
        DUE.is("cut(1)", x.cut(1), true);
        DUE.is("length() of one", x.length(), 1);
        DUE.is("at(0) kept", x.at(0), Integer.MIN_VALUE);
        DUE.is("at(1) cut off", x.at(1), 0);
        DUE.is("change(1) cut off", x.change(1, 3), false);
        DUE.is("say() behind the cut", x.say(8), 2);
        DUE.is("at(1) anew", x.at(1), 8);
        DUE.is("cut(0)", x.cut(0), true);
        DUE.is("length() of none", x.length(), 0);
        full();
        DUE.end();
    }

    private static void outside(FilterProof x) {
        int[] places = {-1, 3, 20000, Integer.MIN_VALUE, Integer.MAX_VALUE};
        for (int i : places) {
            DUE.is("at(" + i + ")", x.at(i), 0);
            DUE.is("change(" + i + ")", x.change(i, 9), false);
        }
        DUE.is("length() as before", x.length(), 3);
    }

    /** More than 512 calls, so the document leaves the answers free; the class keeps to its limit all the same. */
    private static void full() {
        FilterProof x = new FilterProof(0);
        for (int n = 1; n <= 20000; n++) {
            DUE.is("say() " + n, x.say(n), n);
        }
        DUE.is("say() 20001", x.say(1), FilterProof.FULL);
        DUE.is("length() full", x.length(), 20000);
        DUE.is("at(19999)", x.at(19999), 20000);
    }
}
