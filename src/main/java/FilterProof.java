import java.util.Arrays;

/**
 * Packet filters, the proofs that they stay inside packet and scratch, the producer that finds
 * such a proof, the consumer that believes nothing but the proof, and the machine that runs a filter.
 */
public final class FilterProof {
    public static final int BAD = -1;
    public static final int NO = -2;
    public static final int FULL = -3;

    private static final int MOST_INSTRUCTIONS = 48;
    private static final int MOST_INTS = 20000;
    private static final int MOST_BYTES = 1024;
    private static final int MOST_FACTS = 24;
    private static final int MOST_STEPS = 12;
    private static final int REGISTERS = 8;
    private static final int SCRATCH = 32;

    private static final int POINTS = 10;
    private static final int PAIRS = POINTS * POINTS;
    private static final int ZERO = 0;
    private static final int PACKET_LENGTH = 9;

    private static final int RETURN = 0;
    private static final int SET = 1;
    private static final int COPY = 2;
    private static final int ADD_NUMBER = 3;
    private static final int ADD = 4;
    private static final int SUBTRACT = 5;
    private static final int AND = 6;
    private static final int SHIFT = 7;
    private static final int LOAD_1 = 8;
    private static final int LOAD_2 = 9;
    private static final int LOAD_4 = 10;
    private static final int READ = 11;
    private static final int WRITE = 12;
    private static final int GO = 13;
    private static final int IF_BELOW = 14;
    private static final int IF_BELOW_NUMBER = 15;
    private static final int IF_SAME = 16;

    private static final int TRAP_PACKET = 1;
    private static final int TRAP_SCRATCH = 2;
    private static final int TRAP_RANGE = 3;

    private static final int FAULT_FILTER = 1;
    private static final int FAULT_END = 2;
    private static final int FAULT_NUMBER = 3;
    private static final int FAULT_STEP = 4;
    private static final int FAULT_ROW = 5;
    private static final int FAULT_SUM = 6;
    private static final int FAULT_DEAD = 7;
    private static final int FAULT_MORE = 8;

    private static final int DEAD = -1;
    private static final int MOST_EDGES = 2;
    private static final int BEGINNING = -1;
    private static final int BEGINNING_FACTS = 18;
    /** In the place of an edge: the facts of an instruction as they are before it. */
    private static final int NO_EDGE = -1;
    /** The producer's numbers below this are bounds, those from it on are an edge's further steps. */
    private static final int FURTHER = PAIRS;
    private static final int MOST_FURTHER = 2;
    /** No bound at all; greater than every sum, so that the greatest of two bounds is none if one is. */
    private static final long NONE = 1L << 62;

    private final Filter filter;
    private final Tape tape;
    private final Packet packet;
    private final Producer producer;
    private final Consumer consumer;
    private final Machine machine;
    private int foundPlace;

    public FilterProof(int least) {
        filter = new Filter(Math.max(0, Math.min(MOST_BYTES, least)));
        tape = new Tape();
        packet = new Packet();
        producer = new Producer();
        consumer = new Consumer();
        machine = new Machine();
        foundPlace = NO;
    }

    public int instruction(int operation, int a, int b, int k, int t) {
        if (operation < RETURN || operation > IF_SAME) {
            return BAD;
        }
        return filter.append(operation, a, b, k, t) ? filter.count : FULL;
    }

    public int clear() {
        int had = filter.count;
        filter.count = 0;
        return had;
    }

    public int prove() {
        tape.keep(0);
        foundPlace = filter.wrongPlace();
        if (foundPlace != NO) {
            return BAD;
        }
        foundPlace = producer.produce(filter, tape);
        if (foundPlace != NO) {
            tape.keep(0);
            return NO;
        }
        return tape.size;
    }

    public int say(int v) {
        return tape.append(v) ? tape.size : FULL;
    }

    public boolean cut(int n) {
        return tape.keep(n);
    }

    public boolean change(int i, int v) {
        return tape.replace(i, v);
    }

    public int length() {
        return tape.size;
    }

    public int at(int i) {
        return tape.get(i);
    }

    public int check() {
        int fault = consumer.read(filter, tape);
        foundPlace = consumer.faultPlace;
        return -fault;
    }

    public int place() {
        return foundPlace;
    }

    public int receive(long bytes, int n) {
        if (n < 1 || n > 8) {
            return BAD;
        }
        return packet.append(bytes, n) ? packet.size : FULL;
    }

    public int drop() {
        int had = packet.size;
        packet.size = 0;
        return had;
    }

    public int run() {
        if (filter.wrongPlace() != NO || packet.size < filter.least) {
            return BAD;
        }
        return machine.execute(filter, packet);
    }

    public int result() {
        return machine.returned;
    }

    public int steps() {
        return machine.done;
    }

    private static final class Instruction {
        int operation;
        int a;
        int b;
        int k;
        int t;

        boolean isRight(int own, int count) {
            return isRegister(a) && isRegister(b) && hasRightNumber() && hasRightTarget(own, count);
        }

        private static boolean isRegister(int r) {
            return r >= 0 && r < REGISTERS;
        }

        private boolean hasRightNumber() {
            if (operation == AND) {
                return k >= 0;
            }
            return operation != SHIFT || k >= 1 && k <= 31;
        }

        private boolean hasRightTarget(int own, int count) {
            return operation < GO || t > own && t < count;
        }

        /** Whether facts about register a do not outlive this instruction as they are. */
        boolean changesRegister() {
            if (operation == COPY && a == b) {
                return false;
            }
            return operation >= SET && operation <= READ;
        }

        int edgeCount() {
            if (operation == RETURN) {
                return 0;
            }
            return operation >= IF_BELOW ? 2 : 1;
        }

        boolean jumpsBy(int edge) {
            return operation == GO || operation >= IF_BELOW && edge == 1;
        }

        int edgeEnd(int own, int edge) {
            return jumpsBy(edge) ? t : own + 1;
        }

        boolean isAccess() {
            return operation >= LOAD_1 && operation <= WRITE;
        }

        boolean isScratchAccess() {
            return operation == READ || operation == WRITE;
        }

        int loadSize() {
            if (operation == LOAD_4) {
                return 4;
            }
            return operation == LOAD_2 ? 2 : 1;
        }

        /** The point that the place of an access is measured against from above. */
        int accessTop() {
            return isScratchAccess() ? ZERO : PACKET_LENGTH;
        }

        long accessMost() {
            return isScratchAccess() ? SCRATCH - 1L - k : -(long) k - loadSize();
        }
    }

    private static final class Filter {
        final int least;
        final Instruction[] instructions = new Instruction[MOST_INSTRUCTIONS];
        int count;

        Filter(int least) {
            this.least = least;
            for (int i = 0; i < MOST_INSTRUCTIONS; i++) {
                instructions[i] = new Instruction();
            }
        }

        boolean append(int operation, int a, int b, int k, int t) {
            if (count >= MOST_INSTRUCTIONS) {
                return false;
            }
            Instruction last = instructions[count];
            last.operation = operation;
            last.a = a;
            last.b = b;
            last.k = k;
            last.t = t;
            count++;
            return true;
        }

        /** NO when the filter is well made. */
        int wrongPlace() {
            for (int i = 0; i < count; i++) {
                if (!instructions[i].isRight(i, count)) {
                    return i;
                }
            }
            boolean ends = count > 0 && instructions[count - 1].operation == RETURN;
            return ends ? NO : count;
        }
    }

    private static final class Tape {
        private final int[] ints = new int[MOST_INTS];
        int size;

        boolean append(int v) {
            if (size >= MOST_INTS) {
                return false;
            }
            ints[size] = v;
            size++;
            return true;
        }

        boolean keep(int n) {
            if (n < 0 || n > size) {
                return false;
            }
            size = n;
            return true;
        }

        boolean replace(int i, int v) {
            if (i < 0 || i >= size) {
                return false;
            }
            ints[i] = v;
            return true;
        }

        int get(int i) {
            return i >= 0 && i < size ? ints[i] : 0;
        }
    }

    private static final class Packet {
        private final byte[] bytes = new byte[MOST_BYTES];
        int size;

        boolean append(long more, int n) {
            if (size + n > MOST_BYTES) {
                return false;
            }
            for (int left = n - 1; left >= 0; left--) {
                bytes[size] = (byte) (more >>> 8 * left);
                size++;
            }
            return true;
        }

        boolean has(long place, int n) {
            return place >= 0 && place + n <= size;
        }

        /** For places that has() has allowed. */
        int load(int place, int n) {
            int value = 0;
            for (int i = 0; i < n; i++) {
                value = value << 8 | bytes[place + i] & 255;
            }
            return value;
        }
    }

    private static final class Machine {
        private final int[] registers = new int[REGISTERS];
        private final byte[] scratch = new byte[SCRATCH];
        int returned;
        int done;

        /** For a filter that is well made: each jump leads forward, so no run is longer than the filter. */
        int execute(Filter filter, Packet packet) {
            Arrays.fill(registers, 0);
            Arrays.fill(scratch, (byte) 0);
            registers[1] = packet.size;
            returned = 0;
            done = 0;
            int i = 0;
            while (done < filter.count && i < filter.count) {
                Instruction now = filter.instructions[i];
                done++;
                if (now.operation == RETURN) {
                    returned = registers[now.a];
                    return 0;
                }
                int trap = perform(now, packet);
                if (trap != 0) {
                    return trap;
                }
                i = jumps(now) ? now.t : i + 1;
            }
            return 0;
        }

        /** The trap, or 0. */
        private int perform(Instruction now, Packet packet) {
            int a = now.a;
            switch (now.operation) {
                case SET:
                    registers[a] = now.k;
                    return 0;
                case COPY:
                    registers[a] = registers[now.b];
                    return 0;
                case ADD_NUMBER:
                    return become(a, (long) registers[a] + now.k);
                case ADD:
                    return become(a, (long) registers[a] + registers[now.b]);
                case SUBTRACT:
                    return become(a, (long) registers[a] - registers[now.b]);
                case AND:
                    registers[a] &= now.k;
                    return 0;
                case SHIFT:
                    registers[a] >>>= now.k;
                    return 0;
                default:
                    return now.isAccess() ? access(now, packet) : 0;
            }
        }

        private int become(int a, long value) {
            if (value != (int) value) {
                return TRAP_RANGE;
            }
            registers[a] = (int) value;
            return 0;
        }

        private int access(Instruction now, Packet packet) {
            long place = (long) registers[now.b] + now.k;
            if (now.isScratchAccess()) {
                return accessScratch(now, place);
            }
            if (!packet.has(place, now.loadSize())) {
                return TRAP_PACKET;
            }
            registers[now.a] = packet.load((int) place, now.loadSize());
            return 0;
        }

        private int accessScratch(Instruction now, long place) {
            if (place < 0 || place >= SCRATCH) {
                return TRAP_SCRATCH;
            }
            if (now.operation == READ) {
                registers[now.a] = scratch[(int) place] & 255;
            } else {
                scratch[(int) place] = (byte) registers[now.a];
            }
            return 0;
        }

        private boolean jumps(Instruction now) {
            switch (now.operation) {
                case GO:
                    return true;
                case IF_BELOW:
                    return registers[now.a] < registers[now.b];
                case IF_BELOW_NUMBER:
                    return registers[now.a] < now.k;
                case IF_SAME:
                    return registers[now.a] == registers[now.b];
                default:
                    return false;
            }
        }
    }

    /** A fact as a step of a row; a method that makes one answers whether there is such a step. */
    private static final class Step {
        int from;
        int to;
        long cost;

        boolean become(int from, int to, long cost) {
            this.from = from;
            this.to = to;
            this.cost = cost;
            return true;
        }

        boolean becomeBeginning(int number, int least) {
            if (number < 0 || number >= BEGINNING_FACTS) {
                return false;
            }
            if (number < 2) {
                return becomePair(number, 2, PACKET_LENGTH, 0, 0);
            }
            if (number < 16) {
                int nth = (number - 2) / 2;
                // register 1 is the packet's length, so the row of zeros leaves it out
                int r = nth == 0 ? 0 : nth + 1;
                return becomePair(number % 2, 1 + r, ZERO, 0, 0);
            }
            return number == 16
                    ? become(ZERO, PACKET_LENGTH, -(long) least)
                    : become(PACKET_LENGTH, ZERO, MOST_BYTES);
        }

        /** Makes of a fact before the instruction what it is behind it. */
        boolean carryOver(Instruction now) {
            int changed = 1 + now.a;
            if (from != changed && to != changed || !now.changesRegister()) {
                return true;
            }
            if (now.operation == ADD_NUMBER) {
                cost += from == changed ? now.k : -(long) now.k;
                return true;
            }
            if (now.operation != SUBTRACT || now.a == now.b) {
                return false;
            }
            int other = 1 + now.b;
            if (from == changed && to == other) {
                to = ZERO;
                return true;
            }
            if (from == other && to == changed) {
                from = ZERO;
                return true;
            }
            return false;
        }

        /** The further steps of an edge, numbered from 0, of all operations but ADD. */
        boolean becomeFurther(Instruction now, boolean jump, int number) {
            int a = 1 + now.a;
            int b = 1 + now.b;
            long k = now.k;
            switch (now.operation) {
                case SET:
                    return becomePair(number, a, ZERO, k, -k);
                case COPY:
                    return a != b && becomePair(number, a, b, 0, 0);
                case SUBTRACT:
                    return a == b && becomePair(number, a, ZERO, 0, 0);
                case AND:
                    return becomePair(number, a, ZERO, k, 0);
                case SHIFT:
                    return becomePair(number, a, ZERO, (1L << (32 - now.k)) - 1, 0);
                case LOAD_1:
                case READ:
                    return becomePair(number, a, ZERO, 255, 0);
                case LOAD_2:
                    return becomePair(number, a, ZERO, 65535, 0);
                case IF_BELOW:
                    return a != b && number == 0 && (jump ? become(a, b, -1) : become(b, a, 0));
                case IF_BELOW_NUMBER:
                    return number == 0 && (jump ? become(a, ZERO, k - 1) : become(ZERO, a, -k));
                case IF_SAME:
                    return jump && a != b && becomePair(number, a, b, 0, 0);
                default:
                    return false;
            }
        }

        /** The further step of an ADD that its facts x and y make. */
        boolean becomeSum(Instruction now, Step x, Step y) {
            int a = 1 + now.a;
            int b = 1 + now.b;
            if (a == b) {
                return false;
            }
            if (x.from == a && x.to != b && y.from == b && y.to == ZERO) {
                return become(a, x.to, x.cost + y.cost);
            }
            if (x.to == a && x.from != b && y.from == ZERO && y.to == b) {
                return become(x.from, a, x.cost + y.cost);
            }
            return false;
        }

        /** Number 0 is (one, other, there), number 1 (other, one, back). */
        private boolean becomePair(int number, int one, int other, long there, long back) {
            boolean first = number == 0;
            from = first ? one : other;
            to = first ? other : one;
            cost = first ? there : back;
            return first || number == 1;
        }
    }

    /** Reads a tape from its beginning and knows of it only what it has read. */
    private static final class Consumer {
        private final int[] factCount = new int[MOST_INSTRUCTIONS];
        private final int[] firstFact = new int[MOST_INSTRUCTIONS];
        private final Step step = new Step();
        private final Step x = new Step();
        private final Step y = new Step();
        private Filter filter;
        private Tape tape;
        private int next;
        private int latest;
        private int fault;
        int faultPlace;

        /** The fault, or 0. */
        int read(Filter filter, Tape tape) {
            this.filter = filter;
            this.tape = tape;
            next = 0;
            fault = 0;
            faultPlace = NO;
            int wrong = filter.wrongPlace();
            boolean sound = wrong == NO
                    ? readFacts() && readReasonsFor(0, BEGINNING, NO_EDGE)
                    : refuse(FAULT_FILTER, wrong);
            for (int i = 0; sound && i < filter.count; i++) {
                sound = factCount[i] == DEAD || readAccess(i) && readEdges(i);
            }
            if (sound && next < tape.size) {
                refuse(FAULT_MORE, next);
            }
            return fault;
        }

        private boolean refuse(int why, int where) {
            fault = why;
            faultPlace = where;
            return false;
        }

        private boolean readAny() {
            if (next >= tape.size) {
                return refuse(FAULT_END, tape.size);
            }
            latest = tape.get(next);
            next++;
            return true;
        }

        private boolean readWithin(int lowest, int highest) {
            if (!readAny()) {
                return false;
            }
            return latest >= lowest && latest <= highest || refuse(FAULT_NUMBER, next - 1);
        }

        private boolean readFacts() {
            for (int i = 0; i < filter.count; i++) {
                if (!readWithin(DEAD, MOST_FACTS)) {
                    return false;
                }
                factCount[i] = latest;
                firstFact[i] = next;
                for (int f = 0; f < factCount[i]; f++) {
                    if (!readFact()) {
                        return false;
                    }
                }
            }
            return factCount[0] != DEAD || refuse(FAULT_DEAD, 0);
        }

        private boolean readFact() {
            if (!readWithin(0, POINTS - 1)) {
                return false;
            }
            int u = latest;
            if (!readWithin(0, POINTS - 1)) {
                return false;
            }
            if (latest == u) {
                return refuse(FAULT_NUMBER, next - 1);
            }
            return readAny();
        }

        private boolean readAccess(int i) {
            Instruction now = filter.instructions[i];
            if (!now.isAccess()) {
                return true;
            }
            int base = 1 + now.b;
            return readReason(i, NO_EDGE, ZERO, base, now.k)
                    && readReason(i, NO_EDGE, base, now.accessTop(), now.accessMost());
        }

        private boolean readEdges(int i) {
            Instruction now = filter.instructions[i];
            for (int edge = 0; edge < now.edgeCount(); edge++) {
                if (!readWithin(0, 1)) {
                    return false;
                }
                int end = now.edgeEnd(i, edge);
                if (latest == 0 && factCount[end] == DEAD) {
                    return refuse(FAULT_DEAD, next - 1);
                }
                boolean sound = latest == 0
                        ? readReasonsFor(end, i, edge)
                        : readWithin(0, POINTS - 1) && readReason(i, edge, latest, latest, -1);
                if (!sound) {
                    return false;
                }
            }
            return true;
        }

        /** Reasons for all facts of the instruction end, by the steps of an edge of instruction i. */
        private boolean readReasonsFor(int end, int i, int edge) {
            for (int f = 0; f < factCount[end]; f++) {
                int fact = firstFact[end] + 3 * f;
                if (!readReason(i, edge, tape.get(fact), tape.get(fact + 1), tape.get(fact + 2))) {
                    return false;
                }
            }
            return true;
        }

        private boolean readReason(int i, int edge, int from, int to, long most) {
            int head = next;
            if (!readWithin(1, MOST_STEPS)) {
                return false;
            }
            int steps = latest;
            int point = from;
            long sum = 0;
            for (int left = steps; left > 0; left--) {
                if (!readAny()) {
                    return false;
                }
                if (!findStep(i, edge, latest)) {
                    return refuse(FAULT_STEP, next - 1);
                }
                if (step.from != point || left == 1 && step.to != to) {
                    return refuse(FAULT_ROW, next - 1);
                }
                point = step.to;
                sum += step.cost;
            }
            return sum <= most || refuse(FAULT_SUM, head);
        }

        private boolean findStep(int i, int edge, int number) {
            if (i == BEGINNING) {
                return step.becomeBeginning(number, filter.least);
            }
            int n = factCount[i];
            Instruction now = filter.instructions[i];
            if (number < n) {
                return findFact(step, i, number) && (edge == NO_EDGE || step.carryOver(now));
            }
            if (edge == NO_EDGE) {
                return false;
            }
            int further = number - n;
            if (now.operation != ADD) {
                return step.becomeFurther(now, now.jumpsBy(edge), further);
            }
            return n > 0 && findFact(x, i, further / n) && findFact(y, i, further % n)
                    && step.becomeSum(now, x, y);
        }

        private boolean findFact(Step found, int i, int number) {
            if (number < 0 || number >= factCount[i]) {
                return false;
            }
            int fact = firstFact[i] + 3 * number;
            return found.become(tape.get(fact), tape.get(fact + 1), tape.get(fact + 2));
        }
    }

    /** The steps that the producer may make rows of, in the order of their numbers. */
    private static final class StepList {
        private static final int ROOM = 2 * PAIRS;

        final int[] numbers = new int[ROOM];
        final int[] froms = new int[ROOM];
        final int[] tos = new int[ROOM];
        final long[] costs = new long[ROOM];
        int count;
        /** What one step gives at least from point to point; what rows give, once they are closed. */
        final long[][] least = new long[POINTS][POINTS];
        private final Step step = new Step();
        private final Step x = new Step();
        private final Step y = new Step();

        private void forget() {
            count = 0;
            for (int u = 0; u < POINTS; u++) {
                Arrays.fill(least[u], NONE);
            }
        }

        private void append(int number) {
            // the producer counts as none what is beyond ints
            if (step.cost != (int) step.cost || count >= ROOM) {
                return;
            }
            numbers[count] = number;
            froms[count] = step.from;
            tos[count] = step.to;
            costs[count] = step.cost;
            count++;
            least[step.from][step.to] = Math.min(least[step.from][step.to], step.cost);
        }

        void takeBeginning(int leastLength) {
            forget();
            for (int number = 0; number < BEGINNING_FACTS; number++) {
                if (step.becomeBeginning(number, leastLength)) {
                    append(number);
                }
            }
        }

        void takeFacts(long[] bounds) {
            forget();
            for (int number = 0; number < PAIRS; number++) {
                if (findBound(step, bounds, number)) {
                    append(number);
                }
            }
        }

        void takeEdge(Instruction now, int edge, long[] bounds) {
            forget();
            for (int number = 0; number < PAIRS; number++) {
                if (findBound(step, bounds, number) && step.carryOver(now)) {
                    append(number);
                }
            }
            if (now.operation == ADD) {
                takeSums(now, bounds);
                return;
            }
            for (int number = 0; number < MOST_FURTHER; number++) {
                if (step.becomeFurther(now, now.jumpsBy(edge), number)) {
                    append(FURTHER + number);
                }
            }
        }

        private void takeSums(Instruction now, long[] bounds) {
            int below = POINTS * (1 + now.b) + ZERO;
            int above = POINTS * ZERO + 1 + now.b;
            for (int first = 0; first < PAIRS; first++) {
                // no other y goes with an x that begins at a, or with one that ends there
                int second = first / POINTS == 1 + now.a ? below : above;
                if (findBound(x, bounds, first) && findBound(y, bounds, second)
                        && step.becomeSum(now, x, y)) {
                    append(FURTHER + PAIRS * first + second);
                }
            }
        }

        private static boolean findBound(Step found, long[] bounds, int number) {
            return bounds[number] != NONE && found.become(number / POINTS, number % POINTS, bounds[number]);
        }

        /** Whether no row gives (x, x, below 0); then least has what rows of any length give. */
        boolean closeRows() {
            for (int by = 0; by < POINTS; by++) {
                for (int u = 0; u < POINTS; u++) {
                    if (least[u][by] != NONE) {
                        closeFrom(u, by);
                    }
                    // looked at in each round, for sums run away once there is such a row
                    if (least[u][u] < 0) {
                        return false;
                    }
                }
            }
            return true;
        }

        private void closeFrom(int u, int by) {
            long head = least[u][by];
            for (int v = 0; v < POINTS; v++) {
                if (least[by][v] != NONE) {
                    least[u][v] = Math.min(least[u][v], head + least[by][v]);
                }
            }
        }

        long bound(int u, int v) {
            long c = least[u][v];
            return c == (int) c ? c : NONE;
        }
    }

    /** Finds the row that a reason is told with. */
    private static final class RowFinder {
        /** sums[n][p]: the least that a row of n steps from p to the wanted end gives. */
        private final long[][] sums = new long[MOST_STEPS + 1][POINTS];
        final int[] row = new int[MOST_STEPS];
        int size;

        /** Whether there is a row that gives (from, to, most or less); row and size are it then. */
        boolean find(StepList steps, int from, int to, long most) {
            Arrays.fill(sums[0], NONE);
            sums[0][to] = 0;
            for (int n = 1; n <= MOST_STEPS; n++) {
                lengthenRows(steps, n);
                if (sums[n][from] <= most) {
                    size = n;
                    chooseSteps(steps, from, most);
                    return true;
                }
            }
            return false;
        }

        private void lengthenRows(StepList steps, int n) {
            long[] shorter = sums[n - 1];
            for (int p = 0; p < POINTS; p++) {
                long best = NONE;
                for (int q = 0; q < POINTS; q++) {
                    if (shorter[q] != NONE && steps.least[p][q] != NONE) {
                        best = Math.min(best, steps.least[p][q] + shorter[q]);
                    }
                }
                sums[n][p] = best;
            }
        }

        private void chooseSteps(StepList steps, int from, long most) {
            int point = from;
            long left = most;
            for (int n = 0; n < size; n++) {
                int s = firstFitting(steps, point, left, sums[size - n - 1]);
                row[n] = steps.numbers[s];
                point = steps.tos[s];
                left -= steps.costs[s];
            }
        }

        /** The first step from point behind which the rest of the row still gives little enough. */
        private static int firstFitting(StepList steps, int point, long left, long[] rest) {
            for (int s = 0; s < steps.count; s++) {
                long behind = rest[steps.tos[s]];
                if (steps.froms[s] == point && behind != NONE && steps.costs[s] + behind <= left) {
                    return s;
                }
            }
            return 0;
        }
    }

    /** Finds bounds forwards, what is needed of them backwards, and writes the proof. */
    private static final class Producer {
        private final long[][] bounds = new long[MOST_INSTRUCTIONS][PAIRS];
        private final boolean[] reached = new boolean[MOST_INSTRUCTIONS];
        private final boolean[] impossible = new boolean[MOST_EDGES * MOST_INSTRUCTIONS];
        private final boolean[] needed = new boolean[PAIRS * MOST_INSTRUCTIONS];
        private final int[] needCount = new int[MOST_INSTRUCTIONS];
        /** The numbers that the needed facts of the instruction at hand have in the proof. */
        private final int[] rank = new int[PAIRS];
        private final StepList steps = new StepList();
        private final RowFinder finder = new RowFinder();
        private Filter filter;
        private Tape tape;
        private boolean writing;
        private boolean fits;

        Producer() {
            for (int i = 0; i < MOST_INSTRUCTIONS; i++) {
                Arrays.fill(bounds[i], NONE);
            }
        }

        /** For a filter that is well made and an empty tape: the place where no proof is found, or NO. */
        int produce(Filter filter, Tape tape) {
            this.filter = filter;
            this.tape = tape;
            writing = false;
            fits = true;
            findBounds();
            for (int i = filter.count - 1; i >= 0; i--) {
                forgetNeeds(i);
                boolean proven = !reached[i]
                        || giveAccess(i) && giveEdges(i) && needCount[i] <= MOST_FACTS;
                if (!proven) {
                    return i;
                }
            }
            writing = true;
            writeFacts();
            steps.takeBeginning(filter.least);
            giveReasonsFor(0, BEGINNING);
            for (int i = 0; i < filter.count; i++) {
                if (reached[i]) {
                    rankNeeds(i);
                    giveAccess(i);
                    giveEdges(i);
                }
            }
            return fits ? NO : filter.count;
        }

        private void findBounds() {
            for (int i = 0; i < filter.count; i++) {
                reached[i] = false;
            }
            steps.takeBeginning(filter.least);
            steps.closeRows();
            joinBounds(0);
            for (int i = 0; i < filter.count; i++) {
                Instruction now = filter.instructions[i];
                for (int edge = 0; reached[i] && edge < now.edgeCount(); edge++) {
                    steps.takeEdge(now, edge, bounds[i]);
                    boolean possible = steps.closeRows();
                    impossible[MOST_EDGES * i + edge] = !possible;
                    if (possible) {
                        joinBounds(now.edgeEnd(i, edge));
                    }
                }
            }
        }

        private void joinBounds(int end) {
            for (int number = 0; number < PAIRS; number++) {
                int u = number / POINTS;
                int v = number % POINTS;
                if (u != v) {
                    long c = steps.bound(u, v);
                    bounds[end][number] = reached[end] ? Math.max(bounds[end][number], c) : c;
                }
            }
            reached[end] = true;
        }

        private void forgetNeeds(int i) {
            for (int number = 0; number < PAIRS; number++) {
                needed[PAIRS * i + number] = false;
            }
            needCount[i] = 0;
        }

        private void need(int i, int number) {
            if (!needed[PAIRS * i + number]) {
                needed[PAIRS * i + number] = true;
                needCount[i]++;
            }
        }

        private boolean giveAccess(int i) {
            Instruction now = filter.instructions[i];
            if (!now.isAccess()) {
                return true;
            }
            steps.takeFacts(bounds[i]);
            int base = 1 + now.b;
            return finder.find(steps, ZERO, base, now.k) && giveRow(i)
                    && finder.find(steps, base, now.accessTop(), now.accessMost()) && giveRow(i);
        }

        private boolean giveEdges(int i) {
            Instruction now = filter.instructions[i];
            for (int edge = 0; edge < now.edgeCount(); edge++) {
                steps.takeEdge(now, edge, bounds[i]);
                boolean given;
                if (impossible[MOST_EDGES * i + edge]) {
                    put(1);
                    given = giveImpossible(i);
                } else {
                    put(0);
                    given = giveReasonsFor(now.edgeEnd(i, edge), i);
                }
                if (!given) {
                    return false;
                }
            }
            return true;
        }

        private boolean giveImpossible(int i) {
            for (int point = 0; point < POINTS; point++) {
                if (finder.find(steps, point, point, -1)) {
                    put(point);
                    return giveRow(i);
                }
            }
            return false;
        }

        /** Reasons for what the instruction end needs, by the steps of an edge of instruction i. */
        private boolean giveReasonsFor(int end, int i) {
            for (int number = 0; number < PAIRS; number++) {
                if (needed[PAIRS * end + number]) {
                    int u = number / POINTS;
                    int v = number % POINTS;
                    if (!finder.find(steps, u, v, bounds[end][number]) || !giveRow(i)) {
                        return false;
                    }
                }
            }
            return true;
        }

        /** Backwards, what the row is made of becomes needed; with all needs known, it is written. */
        private boolean giveRow(int i) {
            put(finder.size);
            for (int n = 0; n < finder.size; n++) {
                if (writing) {
                    put(numberInProof(i, finder.row[n]));
                } else {
                    needPartsOf(i, finder.row[n]);
                }
            }
            return true;
        }

        private void needPartsOf(int i, int number) {
            if (number < FURTHER) {
                need(i, number);
            } else if (filter.instructions[i].operation == ADD) {
                need(i, (number - FURTHER) / PAIRS);
                need(i, (number - FURTHER) % PAIRS);
            }
        }

        private int numberInProof(int i, int number) {
            if (i == BEGINNING) {
                return number;
            }
            if (number < FURTHER) {
                return rank[number];
            }
            int n = needCount[i];
            int further = number - FURTHER;
            if (filter.instructions[i].operation != ADD) {
                return n + further;
            }
            return n + n * rank[further / PAIRS] + rank[further % PAIRS];
        }

        private void writeFacts() {
            for (int i = 0; i < filter.count; i++) {
                put(reached[i] ? needCount[i] : DEAD);
                for (int number = 0; number < PAIRS; number++) {
                    if (needed[PAIRS * i + number]) {
                        put(number / POINTS);
                        put(number % POINTS);
                        put((int) bounds[i][number]);
                    }
                }
            }
        }

        private void rankNeeds(int i) {
            int next = 0;
            for (int number = 0; number < PAIRS; number++) {
                rank[number] = next;
                if (needed[PAIRS * i + number]) {
                    next++;
                }
            }
        }

        private void put(int v) {
            if (writing && !tape.append(v)) {
                fits = false;
            }
        }
    }
}
