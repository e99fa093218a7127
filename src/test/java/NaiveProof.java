import java.util.ArrayList;
import java.util.List;
import java.util.Map;
import java.util.TreeMap;

/**
 * The document once more, as plainly as it can be written and without a care for speed,
 * so that the class can be held against it.
 */
final class NaiveProof {
    static final int NO = -2;

    record Fact(int u, int v, long c) {
    }

    /** Ends the reading of a tape at its first fault. */
    private static final class Refused extends RuntimeException {
        private static final long serialVersionUID = 1;
        final int fault;
        final int place;

        Refused(int fault, int place) {
            this.fault = fault;
            this.place = place;
        }
    }

    final int least;
    final int[][] filter;
    int place = NO;

    NaiveProof(int least, int[][] filter) {
        this.least = Math.max(0, Math.min(1024, least));
        this.filter = filter;
    }

    int wrong() {
        for (int i = 0; i < filter.length; i++) {
            int op = filter[i][0];
            int k = filter[i][3];
            int t = filter[i][4];
            boolean right = filter[i][1] >= 0 && filter[i][1] <= 7 && filter[i][2] >= 0 && filter[i][2] <= 7;
            right &= op != 6 || k >= 0;
            right &= op != 7 || (k >= 1 && k <= 31);
            right &= op < 13 || (t > i && t < filter.length);
            if (!right) {
                return i;
            }
        }
        boolean ends = filter.length > 0 && filter[filter.length - 1][0] == 0;
        return ends ? NO : filter.length;
    }

    TreeMap<Integer, Fact> beginning() {
        List<Fact> facts = new ArrayList<>();
        facts.add(new Fact(2, 9, 0));
        facts.add(new Fact(9, 2, 0));
        for (int r = 0; r <= 7; r++) {
            if (r != 1) {
                facts.add(new Fact(1 + r, 0, 0));
                facts.add(new Fact(0, 1 + r, 0));
            }
        }
        facts.add(new Fact(0, 9, -least));
        facts.add(new Fact(9, 0, 1024));
        TreeMap<Integer, Fact> numbered = new TreeMap<>();
        for (int i = 0; i < facts.size(); i++) {
            numbered.put(i, facts.get(i));
        }
        return numbered;
    }

    /** {end, 1 if it is the way to t}. */
    List<int[]> edges(int i) {
        List<int[]> edges = new ArrayList<>();
        int op = filter[i][0];
        if (op != 0 && op != 13) {
            edges.add(new int[] {i + 1, 0});
        }
        if (op >= 13) {
            edges.add(new int[] {filter[i][4], 1});
        }
        return edges;
    }

    private static Fact behind(int[] ins, Fact f) {
        int op = ins[0];
        int a = ins[1];
        int b = ins[2];
        int k = ins[3];
        boolean changes = op >= 1 && op <= 11 && !(op == 2 && a == b);
        if (!changes || (f.u() != 1 + a && f.v() != 1 + a)) {
            return f;
        }
        if (op == 3 && f.u() == 1 + a) {
            return new Fact(f.u(), f.v(), f.c() + k);
        }
        if (op == 3) {
            return new Fact(f.u(), f.v(), f.c() - k);
        }
        if (op == 5 && a != b && f.u() == 1 + a && f.v() == 1 + b) {
            return new Fact(1 + a, 0, f.c());
        }
        if (op == 5 && a != b && f.u() == 1 + b && f.v() == 1 + a) {
            return new Fact(0, 1 + a, f.c());
        }
        return null;
    }

    private static List<Fact> further(int[] ins, boolean toT) {
        int op = ins[0];
        int a = ins[1];
        int b = ins[2];
        long k = ins[3];
        List<Fact> f = new ArrayList<>();
        long high = -1;
        if (op == 1) {
            f.add(new Fact(1 + a, 0, k));
            f.add(new Fact(0, 1 + a, -k));
        }
        if (op == 5 && a == b) {
            high = 0;
        } else if (op == 6) {
            high = k;
        } else if (op == 7) {
            high = Math.round(Math.pow(2, 32 - k)) - 1;
        } else if (op == 8 || op == 11) {
            high = 255;
        } else if (op == 9) {
            high = 65535;
        }
        if (high >= 0) {
            f.add(new Fact(1 + a, 0, high));
            f.add(new Fact(0, 1 + a, 0));
        }
        if (a != b && (op == 2 || (op == 16 && toT))) {
            f.add(new Fact(1 + a, 1 + b, 0));
            f.add(new Fact(1 + b, 1 + a, 0));
        }
        if (a != b && op == 14) {
            f.add(toT ? new Fact(1 + a, 1 + b, -1) : new Fact(1 + b, 1 + a, 0));
        }
        if (op == 15) {
            f.add(toT ? new Fact(1 + a, 0, k - 1) : new Fact(0, 1 + a, -k));
        }
        return f;
    }

    /** The steps of an edge, by number; n is what the numbers of the further ones begin with. */
    private TreeMap<Integer, Fact> steps(int i, boolean toT, TreeMap<Integer, Fact> facts, int n) {
        int[] ins = filter[i];
        int a = ins[1];
        int b = ins[2];
        TreeMap<Integer, Fact> steps = new TreeMap<>();
        for (Map.Entry<Integer, Fact> e : facts.entrySet()) {
            Fact f = behind(ins, e.getValue());
            if (f != null) {
                steps.put(e.getKey(), f);
            }
        }
        List<Fact> further = further(ins, toT);
        for (int j = 0; j < further.size(); j++) {
            steps.put(n + j, further.get(j));
        }
        if (ins[0] == 4 && a != b) {
            for (Map.Entry<Integer, Fact> ex : facts.entrySet()) {
                for (Map.Entry<Integer, Fact> ey : facts.entrySet()) {
                    Fact x = ex.getValue();
                    Fact y = ey.getValue();
                    int number = n + n * ex.getKey() + ey.getKey();
                    if (x.u() == 1 + a && y.u() == 1 + b && y.v() == 0 && x.v() != 1 + b) {
                        steps.put(number, new Fact(1 + a, x.v(), x.c() + y.c()));
                    }
                    if (x.v() == 1 + a && y.u() == 0 && y.v() == 1 + b && x.u() != 1 + b) {
                        steps.put(number, new Fact(x.u(), 1 + a, x.c() + y.c()));
                    }
                }
            }
        }
        return steps;
    }

    private static boolean isInt(long c) {
        return c >= Integer.MIN_VALUE && c <= Integer.MAX_VALUE;
    }

    // ---- the consumer

    private List<Integer> tape;
    private int next;
    private List<TreeMap<Integer, Fact>> told;

    int check(List<Integer> ints) {
        tape = ints;
        next = 0;
        place = NO;
        try {
            if (wrong() != NO) {
                throw new Refused(1, wrong());
            }
            readAll();
        } catch (Refused r) {
            place = r.place;
            return -r.fault;
        }
        return 0;
    }

    private int read(long low, long high) {
        if (next >= tape.size()) {
            throw new Refused(2, tape.size());
        }
        int v = tape.get(next);
        if (v < low || v > high) {
            throw new Refused(3, next);
        }
        next++;
        return v;
    }

    private int readAny() {
        return read(Integer.MIN_VALUE, Integer.MAX_VALUE);
    }

    private void readAll() {
        told = new ArrayList<>();
        for (int i = 0; i < filter.length; i++) {
            int n = read(-1, 24);
            TreeMap<Integer, Fact> facts = n < 0 ? null : new TreeMap<>();
            for (int f = 0; f < n; f++) {
                int u = read(0, 9);
                int v = read(0, 9);
                if (u == v) {
                    throw new Refused(3, next - 1);
                }
                facts.put(f, new Fact(u, v, readAny()));
            }
            told.add(facts);
        }
        if (told.get(0) == null) {
            throw new Refused(7, 0);
        }
        for (Fact f : told.get(0).values()) {
            readReason(beginning(), f.u(), f.v(), f.c());
        }
        for (int i = 0; i < filter.length; i++) {
            if (told.get(i) != null) {
                readInstruction(i, told.get(i));
            }
        }
        if (next < tape.size()) {
            throw new Refused(8, next);
        }
    }

    private void readInstruction(int i, TreeMap<Integer, Fact> facts) {
        for (Fact f : accessFacts(i)) {
            readReason(facts, f.u(), f.v(), f.c());
        }
        for (int[] edge : edges(i)) {
            TreeMap<Integer, Fact> steps = steps(i, edge[1] == 1, facts, facts.size());
            if (read(0, 1) == 1) {
                int x = read(0, 9);
                readReason(steps, x, x, -1);
            } else if (told.get(edge[0]) == null) {
                throw new Refused(7, next - 1);
            } else {
                for (Fact f : told.get(edge[0]).values()) {
                    readReason(steps, f.u(), f.v(), f.c());
                }
            }
        }
    }

    private List<Fact> accessFacts(int i) {
        int op = filter[i][0];
        int b = filter[i][2];
        long k = filter[i][3];
        List<Fact> facts = new ArrayList<>();
        if (op >= 8 && op <= 12) {
            facts.add(new Fact(0, 1 + b, k));
            if (op >= 11) {
                facts.add(new Fact(1 + b, 0, 31 - k));
            } else {
                facts.add(new Fact(1 + b, 9, -k - (op == 8 ? 1 : op == 9 ? 2 : 4)));
            }
        }
        return facts;
    }

    private void readReason(TreeMap<Integer, Fact> steps, int u, int v, long most) {
        int head = next;
        int n = read(1, 12);
        int point = u;
        long sum = 0;
        for (int s = 1; s <= n; s++) {
            Fact step = steps.get(readAny());
            if (step == null) {
                throw new Refused(4, next - 1);
            }
            if (step.u() != point || (s == n && step.v() != v)) {
                throw new Refused(5, next - 1);
            }
            point = step.v();
            sum += step.c();
        }
        if (sum > most) {
            throw new Refused(6, head);
        }
    }

    // ---- the producer

    private List<TreeMap<Integer, Fact>> bounds;
    private List<TreeMap<Integer, Fact>> needs;

    /** Whether some bound was beyond ints from below: the one place where the words could be read otherwise. */
    boolean belowInts;
    int longestReason;
    int impossibleEdges;
    int longestAccess;

    /** The proof, or null. */
    List<Integer> prove() {
        place = wrong();
        if (place != NO) {
            return null;
        }
        findBounds();
        needs = new ArrayList<>();
        for (int i = 0; i < filter.length; i++) {
            needs.add(new TreeMap<>());
        }
        for (int i = filter.length - 1; i >= 0; i--) {
            if (bounds.get(i) != null && !findNeeds(i)) {
                place = i;
                return null;
            }
        }
        List<Integer> proof = write();
        if (proof.size() > 20000) {
            place = filter.length;
            return null;
        }
        return proof;
    }

    /** What rows of the steps give, by 10 u + v; null when one gives (x, x, below 0). */
    private TreeMap<Integer, Fact> close(TreeMap<Integer, Fact> steps) {
        Long[][] best = new Long[10][10];
        Long[][] now = new Long[10][10];
        for (int x = 0; x < 10; x++) {
            now[x][x] = 0L;
        }
        for (int length = 1; length <= 10; length++) {
            Long[][] longer = new Long[10][10];
            for (int u = 0; u < 10; u++) {
                for (Fact s : steps.values()) {
                    if (now[u][s.u()] != null) {
                        long c = now[u][s.u()] + s.c();
                        if (longer[u][s.v()] == null || c < longer[u][s.v()]) {
                            longer[u][s.v()] = c;
                        }
                        if (best[u][s.v()] == null || c < best[u][s.v()]) {
                            best[u][s.v()] = c;
                        }
                    }
                }
            }
            now = longer;
        }
        TreeMap<Integer, Fact> given = new TreeMap<>();
        for (int u = 0; u < 10; u++) {
            if (best[u][u] != null && best[u][u] < 0) {
                return null;
            }
        }
        for (int u = 0; u < 10; u++) {
            for (int v = 0; v < 10; v++) {
                if (u != v && best[u][v] != null) {
                    belowInts |= best[u][v] < Integer.MIN_VALUE;
                    if (isInt(best[u][v])) {
                        given.put(10 * u + v, new Fact(u, v, best[u][v]));
                    }
                }
            }
        }
        return given;
    }

    private TreeMap<Integer, Fact> producerSteps(int i, boolean toT) {
        TreeMap<Integer, Fact> steps = steps(i, toT, bounds.get(i), 100);
        steps.values().removeIf(f -> !isInt(f.c()));
        return steps;
    }

    private void findBounds() {
        bounds = new ArrayList<>();
        for (int i = 0; i < filter.length; i++) {
            bounds.add(null);
        }
        bounds.set(0, close(beginning()));
        for (int i = 0; i < filter.length; i++) {
            if (bounds.get(i) == null) {
                continue;
            }
            for (int[] edge : edges(i)) {
                TreeMap<Integer, Fact> given = close(producerSteps(i, edge[1] == 1));
                if (given == null) {
                    continue;
                }
                TreeMap<Integer, Fact> there = bounds.get(edge[0]);
                if (there == null) {
                    bounds.set(edge[0], given);
                    continue;
                }
                there.keySet().retainAll(given.keySet());
                for (int number : there.keySet()) {
                    if (given.get(number).c() > there.get(number).c()) {
                        there.put(number, given.get(number));
                    }
                }
            }
        }
    }

    private static Long least(TreeMap<Integer, Fact> steps, int n, int from, int to, Long[][] known) {
        if (n == 0) {
            return from == to ? 0 : Long.MAX_VALUE;
        }
        if (known[n][from] == null) {
            long best = Long.MAX_VALUE;
            for (Fact s : steps.values()) {
                if (s.u() == from) {
                    long rest = least(steps, n - 1, s.v(), to, known);
                    best = rest == Long.MAX_VALUE ? best : Math.min(best, s.c() + rest);
                }
            }
            known[n][from] = best;
        }
        return known[n][from];
    }

    private static List<Integer> row(TreeMap<Integer, Fact> steps, int from, int to, long most) {
        Long[][] known = new Long[13][10];
        for (int n = 1; n <= 12; n++) {
            if (least(steps, n, from, to, known) > most) {
                continue;
            }
            List<Integer> row = new ArrayList<>();
            int point = from;
            long left = most;
            for (int behind = n - 1; behind >= 0; behind--) {
                for (Map.Entry<Integer, Fact> e : steps.entrySet()) {
                    Fact s = e.getValue();
                    long rest = least(steps, behind, s.v(), to, known);
                    if (s.u() == point && rest != Long.MAX_VALUE && s.c() + rest <= left) {
                        row.add(e.getKey());
                        point = s.v();
                        left -= s.c();
                        break;
                    }
                }
            }
            return row;
        }
        return null;
    }

    private boolean use(int i, List<Integer> row) {
        if (row == null) {
            return false;
        }
        longestReason = Math.max(longestReason, row.size());
        for (int number : row) {
            if (number < 100) {
                needs.get(i).put(number, bounds.get(i).get(number));
            } else if (filter[i][0] == 4) {
                int x = (number - 100) / 100;
                int y = (number - 100) % 100;
                needs.get(i).put(x, bounds.get(i).get(x));
                needs.get(i).put(y, bounds.get(i).get(y));
            }
        }
        return true;
    }

    private boolean findNeeds(int i) {
        for (Fact f : accessFacts(i)) {
            List<Integer> row = row(bounds.get(i), f.u(), f.v(), f.c());
            if (!use(i, row)) {
                return false;
            }
            longestAccess = Math.max(longestAccess, row.size());
        }
        for (int[] edge : edges(i)) {
            TreeMap<Integer, Fact> steps = producerSteps(i, edge[1] == 1);
            if (close(steps) == null) {
                impossibleEdges++;
                if (!use(i, row(steps, leastImpossible(steps), leastImpossible(steps), -1))) {
                    return false;
                }
                continue;
            }
            for (Fact f : needs.get(edge[0]).values()) {
                if (!use(i, row(steps, f.u(), f.v(), f.c()))) {
                    return false;
                }
            }
        }
        return needs.get(i).size() <= 24;
    }

    private static int leastImpossible(TreeMap<Integer, Fact> steps) {
        for (int x = 0; x < 10; x++) {
            if (row(steps, x, x, -1) != null) {
                return x;
            }
        }
        return 0;
    }

    private List<Integer> write() {
        List<Integer> out = new ArrayList<>();
        for (int i = 0; i < filter.length; i++) {
            if (bounds.get(i) == null) {
                out.add(-1);
                continue;
            }
            out.add(needs.get(i).size());
            for (Fact f : needs.get(i).values()) {
                out.add(f.u());
                out.add(f.v());
                out.add((int) f.c());
            }
        }
        for (Fact f : needs.get(0).values()) {
            List<Integer> row = row(beginning(), f.u(), f.v(), f.c());
            out.add(row.size());
            out.addAll(row);
        }
        for (int i = 0; i < filter.length; i++) {
            if (bounds.get(i) != null) {
                writeInstruction(i, out);
            }
        }
        return out;
    }

    private void writeInstruction(int i, List<Integer> out) {
        for (Fact f : accessFacts(i)) {
            writeRow(i, row(bounds.get(i), f.u(), f.v(), f.c()), out);
        }
        for (int[] edge : edges(i)) {
            TreeMap<Integer, Fact> steps = producerSteps(i, edge[1] == 1);
            if (close(steps) == null) {
                int x = leastImpossible(steps);
                out.add(1);
                out.add(x);
                writeRow(i, row(steps, x, x, -1), out);
                continue;
            }
            out.add(0);
            for (Fact f : needs.get(edge[0]).values()) {
                writeRow(i, row(steps, f.u(), f.v(), f.c()), out);
            }
        }
    }

    private void writeRow(int i, List<Integer> row, List<Integer> out) {
        List<Integer> order = new ArrayList<>(needs.get(i).keySet());
        int n = order.size();
        out.add(row.size());
        for (int number : row) {
            if (number < 100) {
                out.add(order.indexOf(number));
            } else if (filter[i][0] == 4) {
                out.add(n + n * order.indexOf((number - 100) / 100) + order.indexOf((number - 100) % 100));
            } else {
                out.add(n + number - 100);
            }
        }
    }

    // ---- the machine

    int returned;
    int done;

    int run(int[] packet) {
        long[] r = new long[8];
        int[] scratch = new int[32];
        r[1] = packet.length;
        returned = 0;
        done = 0;
        int i = 0;
        while (true) {
            int[] ins = filter[i];
            int op = ins[0];
            int a = ins[1];
            int b = ins[2];
            int k = ins[3];
            long spot = r[b] + k;
            done++;
            i++;
            if (op == 0) {
                returned = (int) r[a];
                return 0;
            } else if (op == 1) {
                r[a] = k;
            } else if (op == 2) {
                r[a] = r[b];
            } else if (op >= 3 && op <= 5) {
                long sum = op == 3 ? r[a] + k : op == 4 ? r[a] + r[b] : r[a] - r[b];
                if (!isInt(sum)) {
                    return 3;
                }
                r[a] = sum;
            } else if (op == 6) {
                r[a] = (r[a] + (1L << 32)) % (1L << 32) & k;
            } else if (op == 7) {
                r[a] = (r[a] + (1L << 32)) % (1L << 32) / (1L << k);
            } else if (op <= 10) {
                int size = op == 8 ? 1 : op == 9 ? 2 : 4;
                long value = 0;
                if (spot < 0 || spot + size > packet.length) {
                    return 1;
                }
                for (int j = 0; j < size; j++) {
                    value = value * 256 + packet[(int) spot + j];
                }
                r[a] = (int) value;
            } else if (op <= 12) {
                if (spot < 0 || spot > 31) {
                    return 2;
                }
                if (op == 11) {
                    r[a] = scratch[(int) spot];
                } else {
                    scratch[(int) spot] = (int) ((r[a] + (1L << 32)) % 256);
                }
            } else if (op == 13 || op == 14 && r[a] < r[b] || op == 15 && r[a] < k || op == 16 && r[a] == r[b]) {
                i = ins[4];
            }
        }
    }
}
