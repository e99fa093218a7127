import java.util.ArrayList;
import java.util.List;

/**
 * Whether a call that is refused leaves all as it was: of two objects that were made alike only one gets
 * the call, and then both must answer alike to whatever can be asked.
 */
final class Stays {
    private static final int INTS = 60;
    private static final int BYTES = 16;

    /** Makes an object; each time the same one. */
    interface Maker {
        FilterProof make();
    }

    /** A call, with its answer. */
    interface Call {
        long on(FilterProof x);
    }

    private Stays() {
    }

    static void refused(Due due, String name, Maker maker, long answer, Call call) {
        FilterProof x = maker.make();
        due.is(name, call.on(x), answer);
        List<Long> got = all(x);
        List<Long> want = all(maker.make());
        due.is(name + ": as much is told behind it", got.size(), want.size());
        for (int i = 0; i < want.size() && i < got.size(); i++) {
            due.is(name + ": answer " + i + " behind it", got.get(i), want.get(i));
        }
    }

    /** What was told, tape, filter and packet, in some 250 calls. */
    private static List<Long> all(FilterProof x) {
        List<Long> told = new ArrayList<>();
        told(x, told);
        tape(x, told);
        told.add((long) x.check());
        told(x, told);
        told.add((long) x.run());
        told(x, told);
        told.add((long) x.prove());
        told(x, told);
        tape(x, told);
        told.add((long) x.clear());
        packet(x, told);
        told.add((long) x.drop());
        return told;
    }

    private static void told(FilterProof x, List<Long> told) {
        told.add((long) x.place());
        told.add((long) x.result());
        told.add((long) x.steps());
    }

    private static void tape(FilterProof x, List<Long> told) {
        told.add((long) x.length());
        for (int i = 0; i < Math.min(INTS, x.length()); i++) {
            told.add((long) x.at(i));
        }
    }

    private static void packet(FilterProof x, List<Long> told) {
        for (int i = 0; i < BYTES; i++) {
            x.instruction(8, 2, 0, i, 0);
            x.instruction(0, 2, 0, 0, 0);
            told.add((long) x.run());
            told.add((long) x.result());
            x.clear();
        }
    }
}
