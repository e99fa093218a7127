import java.lang.reflect.Method;
import java.net.URL;
import java.net.URLClassLoader;
import java.nio.file.Files;
import java.nio.file.Path;
import java.util.Comparator;
import java.util.List;
import java.util.stream.Collectors;
import java.util.stream.Stream;
import javax.tools.ToolProvider;

/**
 * Limits that no object comes to within its 512 calls, or no filter at all: 20000 ints, and reasons of more than
 * 12 steps that a proof would need. The class is compiled again with smaller limits, and held against these.
 */
public final class LimitsTest {
    private static final Due DUE = new Due("LimitsTest");
    private static final Path SOURCE = Path.of("src", "main", "java", "FilterProof.java");
    private static final int MAX = Integer.MAX_VALUE;
    private static final int[] END = Programs.op(0, 0, 0, 0, 0);
    private static final int[][] LOAD = {Programs.op(8, 2, 0, 3, 0), END};

    private final Class<?> made;
    private final Object object;

    private LimitsTest(Class<?> made, int least, int[]... filter) throws ReflectiveOperationException {
        this.made = made;
        object = made.getConstructor(int.class).newInstance(least);
        for (int[] i : filter) {
            call("instruction", i[0], i[1], i[2], i[3], i[4]);
        }
    }

    public static void main(String[] args) throws Exception {
        Path out = Files.createTempDirectory("limits");
        try {
            longestProof(out);
            fullTape(out);
            longerReasons(out);
            longerImpossibility(out);
        } finally {
            remove(out);
        }
        DUE.end();
    }

    private static void remove(Path directory) throws Exception {
        List<Path> all;
        try (Stream<Path> found = Files.walk(directory)) {
            all = found.sorted(Comparator.reverseOrder()).collect(Collectors.toList());
        }
        for (Path p : all) {
            Files.delete(p);
        }
    }

    /** The class with another value of one of its limits. */
    private static Class<?> with(Path out, String limit, int usual, int value) throws Exception {
        String text = Files.readString(SOURCE);
        String line = "int " + limit + " = " + usual + ";";
        DUE.is("the limit " + limit + " stands in the source once", text.split(line, -1).length, 2);
        Path directory = Files.createDirectories(out.resolve(limit + value));
        Path file = directory.resolve("FilterProof.java");
        Files.writeString(file, text.replace(line, "int " + limit + " = " + value + ";"));
        int failed = ToolProvider.getSystemJavaCompiler().run(null, null, null,
            "--release", "17", "-d", directory.toString(), file.toString());
        DUE.is("compiling with " + limit + " " + value, failed, 0);
        URL[] where = {directory.toUri().toURL()};
        return new URLClassLoader(where, ClassLoader.getPlatformClassLoader()).loadClass("FilterProof");
    }

    private long call(String name, Object... arguments) throws ReflectiveOperationException {
        for (Method m : made.getMethods()) {
            if (m.getName().equals(name)) {
                Object answer = m.invoke(object, arguments);
                return answer instanceof Boolean ? ((Boolean) answer ? 1 : 0) : ((Number) answer).longValue();
            }
        }
        throw new NoSuchMethodException(name);
    }

    private static void longestProof(Path out) throws Exception {
        DUE.sentence("or the proof would have more than 20000 ints (the place is how many instructions there are)");
        for (int most = 15; most <= 19; most++) {
            LimitsTest x = new LimitsTest(with(out, "MOST_INTS", 20000, most), 14, LOAD);
            boolean fits = most >= 18;
            x.call("say", 5);
            DUE.is("prove() with room for " + most, x.call("prove"), fits ? 18 : FilterProof.NO);
            DUE.is("place() with room for " + most, x.call("place"), fits ? FilterProof.NO : 2);
            DUE.is("length() with room for " + most, x.call("length"), fits ? 18 : 0);
            DUE.is("at(0) with room for " + most, x.call("at", 0), fits ? 2 : 0);
            DUE.is("check() with room for " + most, x.call("check"), fits ? 0 : -2);
            DUE.is("prove() again", x.call("prove"), fits ? 18 : FilterProof.NO);
            DUE.is("the filter stays", x.call("clear"), 2);
            x.call("instruction", 0, 0, 0, 0, 0);
            DUE.is("prove() of a shorter proof", x.call("prove"), 1);
            DUE.is("place() of a shorter proof", x.call("place"), FilterProof.NO);
        }
    }

    private static void fullTape(Path out) throws Exception {
        DUE.sentence("FULL when it has 20000");
        LimitsTest x = new LimitsTest(with(out, "MOST_INTS", 20000, 20), 14, LOAD);
        DUE.is("prove()", x.call("prove"), 18);
        DUE.is("say() behind 18", x.call("say", 7), 19);
        DUE.is("say() behind 19", x.call("say", 8), 20);
        DUE.is("say() behind 20", x.call("say", 9), FilterProof.FULL);
        DUE.is("length()", x.call("length"), 20);
        DUE.is("at(19)", x.call("at", 19), 8);
        DUE.is("check()", x.call("check"), -8);
        DUE.is("place()", x.call("place"), 18);
    }

    private static void longerReasons(Path out) throws Exception {
        DUE.sentence("no row of at most 12 bounds gives what an 8 .. 12 needs, a reason for another bound is longer");
        int[][] twoForAPlace = {Programs.op(1, 2, 0, -MAX, 0), Programs.op(10, 3, 2, MAX, 0), END};
        int[][] threeForAnEdge = {
            Programs.op(8, 2, 0, 0, 0), Programs.op(2, 3, 2, 0, 0), Programs.op(14, 2, 1, 0, 4), END,
            Programs.op(8, 4, 3, 0, 0), END
        };
        for (int most = 1; most <= 3; most++) {
            Class<?> made = with(out, "MOST_STEPS", 12, most);
            LimitsTest x = new LimitsTest(made, 14, twoForAPlace);
            DUE.is("a place by 2 steps, at most " + most, x.call("prove") > 0, most >= 2);
            DUE.is("its place()", x.call("place"), most >= 2 ? FilterProof.NO : 1);
            LimitsTest y = new LimitsTest(made, 1, threeForAnEdge);
            DUE.is("an edge by 3 steps, at most " + most, y.call("prove") > 0, most >= 3);
            DUE.is("its place()", y.call("place"), most >= 3 ? FilterProof.NO : 2);
            DUE.is("its length() is 0", y.call("length") == 0, most < 3);
        }
    }

    private static void longerImpossibility(Path out) throws Exception {
        DUE.sentence("For an impossible edge: the least x that has such a row");
        for (int most = 10; most <= 12; most++) {
            Class<?> made = most == 12 ? FilterProof.class : with(out, "MOST_STEPS", 12, most);
            LimitsTest x = new LimitsTest(made, 14, ProducerEdgesTest.rounds(4));
            DUE.is("11 steps, at most " + most, x.call("prove"), most >= 11 ? 54 : 20);
            DUE.is("its check()", x.call("check"), 0);
        }
    }
}
