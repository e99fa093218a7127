import java.util.ArrayList;
import java.util.List;
import java.util.Random;

/** All promises: random rows of 512 calls, in any order and with any arguments, held against a plain model. */
public final class CallsTest {
    private static final int[] ANY = {
        Integer.MIN_VALUE, Integer.MIN_VALUE + 1, -25, -2, -1, 0, 1, 2, 3, 4, 5, 7, 8, 9, 10, 12, 13, 14, 16, 17, 18,
        24, 25, 31, 32, 33, 47, 48, 49, 255, 1023, 1024, 1025, 19999, 20000, Integer.MAX_VALUE - 1, Integer.MAX_VALUE
    };

    private final Due due = new Due("CallsTest");
    private final Random random;
    private final int[] asked = new int[15];
    private int wellMade;
    private int proven;

    private CallsTest(long seed) {
        random = new Random(seed);
    }

    public static void main(String[] args) {
        CallsTest test = new CallsTest(args.length > 0 ? Long.parseLong(args[0]) : 20261115L);
        int objects = args.length > 1 ? Integer.parseInt(args[1]) : 400;
        for (int n = 0; n < objects && test.due.allWell(); n++) {
            test.oneObject(n);
        }
        for (int call = 0; call < test.asked.length; call++) {
            test.due.is("call " + call + " is not rare", test.asked[call] > objects, true);
        }
        test.due.is("filters that are well made are not rare", test.wellMade > objects, true);
        test.due.is("proofs are not rare", test.proven > objects, true);
        test.due.end();
    }

    /** What an object is due to hold and answer, without a thought for limits of time or room. */
    private static final class Model {
        private final int least;
        private final List<int[]> filter = new ArrayList<>();
        private List<Integer> tape = new ArrayList<>();
        private final List<Integer> packet = new ArrayList<>();
        private int place = -2;
        private int result;
        private int steps;

        Model(int least) {
            this.least = Math.max(0, Math.min(1024, least));
        }

        NaiveProof naive() {
            return new NaiveProof(least, filter.toArray(new int[0][]));
        }

        int instruction(int[] i) {
            if (i[0] < 0 || i[0] > 16) {
                return -1;
            }
            if (filter.size() == 48) {
                return -3;
            }
            filter.add(i);
            return filter.size();
        }

        int prove() {
            NaiveProof naive = naive();
            List<Integer> proof = naive.prove();
            place = naive.place;
            tape = proof == null ? new ArrayList<>() : new ArrayList<>(proof);
            return proof != null ? proof.size() : naive.wrong() == -2 ? -2 : -1;
        }

        int check() {
            NaiveProof naive = naive();
            int answer = naive.check(tape);
            place = naive.place;
            return answer;
        }

        boolean cut(int n) {
            if (n < 0 || n > tape.size()) {
                return false;
            }
            tape = new ArrayList<>(tape.subList(0, n));
            return true;
        }

        boolean has(int i) {
            return i >= 0 && i < tape.size();
        }

        int receive(long bytes, int n) {
            if (n < 1 || n > 8) {
                return -1;
            }
            if (packet.size() + n > 1024) {
                return -3;
            }
            for (int i = n - 1; i >= 0; i--) {
                packet.add((int) (bytes >> 8 * i & 255));
            }
            return packet.size();
        }

        int run() {
            NaiveProof naive = naive();
            if (naive.wrong() != -2 || packet.size() < least) {
                return -1;
            }
            int trap = naive.run(packet.stream().mapToInt(Integer::intValue).toArray());
            result = naive.returned;
            steps = naive.done;
            return trap;
        }
    }

    private int any() {
        return ANY[random.nextInt(ANY.length)];
    }

    private boolean seldom() {
        return random.nextInt(60) == 0;
    }

    /** Most instructions are right, so that a filter often is well made. */
    private int[] anyInstruction(int own) {
        int op = seldom() ? any() : random.nextInt(5) == 0 ? 0 : random.nextInt(17);
        int k = op == 6 || op == 7 ? 1 + random.nextInt(31) : random.nextInt(4) == 0 ? any() : random.nextInt(8);
        int[] i = {op, random.nextInt(8), random.nextInt(3), k, own + 1 + random.nextInt(3)};
        if (seldom()) {
            i[1 + random.nextInt(4)] = any();
        }
        return i;
    }

    private int somewhere(int size) {
        return random.nextInt(4) == 0 ? any() : random.nextInt(size + 1);
    }

    private void oneObject(int n) {
        int least = random.nextBoolean() ? any() : random.nextInt(6);
        FilterProof x = new FilterProof(least);
        Model model = new Model(least);
        int[] weights = {30, 1, 8, 6, 3, 10, 3, 4, 8, 6, 9, 2, 8, 5, 5};
        for (int call = 1; call <= 512 && due.allWell(); call++) {
            int left = random.nextInt(108);
            int which = 0;
            while (left >= weights[which]) {
                left -= weights[which];
                which++;
            }
            asked[which]++;
            ask(n + "th object, call " + call + ": ", x, model, which);
        }
    }

    private void ask(String name, FilterProof x, Model model, int which) {
        int i = somewhere(model.tape.size());
        int v = random.nextBoolean() ? any() : random.nextInt(12);
        switch (which) {
            case 0:
                int[] ins = anyInstruction(model.filter.size());
                due.is(name + "instruction()", x.instruction(ins[0], ins[1], ins[2], ins[3], ins[4]), model.instruction(ins));
                break;
            case 1:
                due.is(name + "clear()", x.clear(), model.filter.size());
                model.filter.clear();
                break;
            case 2:
                int proof = model.prove();
                proven += proof > 0 ? 1 : 0;
                due.is(name + "prove()", x.prove(), proof);
                break;
            case 3:
                due.is(name + "say()", x.say(v), model.tape.size() + 1);
                model.tape.add(v);
                break;
            case 4:
                due.is(name + "cut(" + i + ")", x.cut(i), model.cut(i));
                break;
            case 5:
                due.is(name + "change(" + i + ")", x.change(i, v), model.has(i));
                if (model.has(i)) {
                    model.tape.set(i, v);
                }
                break;
            case 6:
                due.is(name + "length()", x.length(), model.tape.size());
                break;
            case 7:
                due.is(name + "at(" + i + ")", x.at(i), model.has(i) ? model.tape.get(i) : 0);
                break;
            case 8:
                due.is(name + "check()", x.check(), model.check());
                break;
            case 9:
                due.is(name + "place()", x.place(), model.place);
                break;
            default:
                askForPackets(name, x, model, which);
                break;
        }
    }

    private void askForPackets(String name, FilterProof x, Model model, int which) {
        switch (which) {
            case 10:
                long bytes = random.nextLong();
                int n = random.nextInt(8) == 0 ? any() : 1 + random.nextInt(8);
                due.is(name + "receive(.., " + n + ")", x.receive(bytes, n), model.receive(bytes, n));
                break;
            case 11:
                due.is(name + "drop()", x.drop(), model.packet.size());
                model.packet.clear();
                break;
            case 12:
                int trap = model.run();
                wellMade += trap >= 0 ? 1 : 0;
                due.is(name + "run()", x.run(), trap);
                break;
            case 13:
                due.is(name + "result()", x.result(), model.result);
                break;
            default:
                due.is(name + "steps()", x.steps(), model.steps);
                break;
        }
    }
}
