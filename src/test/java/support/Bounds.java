import java.lang.reflect.InvocationTargetException;
import java.lang.reflect.Method;
import java.util.ArrayList;
import java.util.Arrays;
import java.util.Comparator;
import java.util.List;
import java.util.function.Supplier;

/** What the tests of boundaries share: tests run by their names, calls that change nothing, numbers in and out. */
final class Bounds {
    interface Call {
        long on(BargeTalks x);
    }

    interface CallWith {
        long on(BargeTalks x, int v);
    }

    private interface Probe {
        List<Long> of(BargeTalks x);
    }

    private static final int BAD = -1;
    /** Each is put to a twin of its own, so that no object is asked more than the 512 calls that are promised. */
    private static final List<Probe> PROBES = List.of(Bounds::look, x -> lookBack(x, 0), x -> lookBack(x, 1),
        Bounds::lookAtSheets, Bounds::lookAtTape);

    private static String test = "";
    private static int checks = 0;

    private Bounds() {
    }

    /** Runs all, and finds each of the promises among them. */
    static void runAll(Class<?> tests, int firstPromise, int lastPromise) throws ReflectiveOperationException {
        for (int p = firstPromise; p <= lastPromise; p++) {
            String name = "promise" + p + "_";
            boolean some = Arrays.stream(tests.getDeclaredMethods()).anyMatch(m -> m.getName().startsWith(name));
            Checks.due("tests of promise " + p, some ? 1 : 0, 1);
        }
        runAll(tests);
    }

    /** Runs every method whose name tells a promise or a term: none can be forgotten. */
    static void runAll(Class<?> tests) throws ReflectiveOperationException {
        Method[] methods = tests.getDeclaredMethods();
        Arrays.sort(methods, Comparator.comparing(Method::getName));
        int run = 0;
        for (Method m : methods) {
            if (m.getName().matches("(promise[0-9]+|terms)_.*")) {
                runOne(m);
                run++;
            }
        }
        System.out.println(run + " tests of boundaries");
        Checks.finish();
    }

    private static void runOne(Method m) throws ReflectiveOperationException {
        test = m.getName();
        checks = 0;
        m.setAccessible(true);
        try {
            m.invoke(null);
        } catch (InvocationTargetException e) {
            due("threw " + e.getCause(), 1, 0);
        }
        Checks.due(test + " checks nothing", checks == 0 ? 1 : 0, 0);
    }

    static void due(String what, long got, long want) {
        checks++;
        Checks.due(test + ": " + what, got, want);
    }

    /** The call is answered so, and behind it all is as on a twin on which it was not made. */
    static void changesNothing(String what, Supplier<BargeTalks> made, Call call, long answer) {
        for (int p = 0; p < PROBES.size(); p++) {
            BargeTalks asked = made.get();
            BargeTalks twin = made.get();
            due(what, call.on(asked), answer);
            boolean same = PROBES.get(p).of(asked).equals(PROBES.get(p).of(twin));
            due(what + ": changed something that probe " + p + " sees", same ? 0 : 1, 0);
        }
    }

    static void bad(String what, Supplier<BargeTalks> made, Call call) {
        changesNothing(what, made, call, BAD);
    }

    /** The numbers from the least to the most are taken, those around them are BAD and change nothing. */
    static void only(int least, int most, Supplier<BargeTalks> made, CallWith call) {
        for (int v = least; v <= most; v++) {
            due(v + " is taken", call.on(made.get(), v) == BAD ? 1 : 0, 0);
        }
        for (int v : new int[] {least - 1, least - 2, Integer.MIN_VALUE}) {
            bad(v + " is too small", made, x -> call.on(x, v));
        }
        for (int v : new int[] {most + 1, most + 2, 256 + least, 65536 + least, Integer.MAX_VALUE}) {
            bad(v + " is too large", made, x -> call.on(x, v));
        }
    }

    /** All that can be asked of what is now. */
    private static List<Long> look(BargeTalks x) {
        List<Long> all = new ArrayList<>();
        for (int w = 0; w <= 7; w++) {
            all.add((long) x.rule(w));
        }
        for (int w = 0; w <= 5; w++) {
            all.add((long) x.count(w));
        }
        all.add((long) x.fault());
        all.add((long) x.torn());
        for (int b = 0; b < 5; b++) {
            for (int w = 0; w <= 4; w++) {
                all.add((long) x.barge(b, w));
            }
            all.add((long) x.kinds(b));
            all.add((long) x.paces(b));
        }
        for (int t = 0; t < 6; t++) {
            for (int w = 0; w <= 8; w++) {
                all.add((long) x.talk(t, w));
            }
        }
        return all;
    }

    private static List<Long> lookBack(BargeTalks x, int k) {
        long answer = x.back(k);
        List<Long> all = look(x);
        all.add(answer);
        return all;
    }

    /** Reads two talks of each sheet, taken as of each lane; their cells are seen by the talks that come. */
    private static List<Long> lookAtSheets(BargeTalks x) {
        List<Long> all = new ArrayList<>();
        for (int k = 0; k < 4; k++) {
            for (int lane = 0; lane < 3; lane++) {
                x.cut(0);
                all.add((long) x.read(k, lane, 0, 2));
                all.add((long) x.torn());
                for (int i = 0; i < 6; i++) {
                    all.add((long) x.talk(i / 3, i % 3));
                }
            }
        }
        return all;
    }

    private static List<Long> lookAtTape(BargeTalks x) {
        long lines = x.text();
        List<Long> all = look(x);
        all.add(lines);
        return all;
    }
}
