import java.lang.reflect.InvocationTargetException;
import java.lang.reflect.Method;
import java.util.ArrayList;
import java.util.Arrays;
import java.util.List;

/** Every call with numbers from all edges: none throws, and what is refused changes nothing. */
public final class EdgesTest {
    private static final int[] EDGES = {Integer.MIN_VALUE, -1, 0, 1, 3, 9, 20, 41, 101, Integer.MAX_VALUE};
    private static final List<String> CHANGERS = List.of("feed", "end", "text", "alter", "memory", "start", "cut", "say",
        "hours", "see", "forget", "keep", "back", "sheet", "lay", "read");

    public static void main(String[] args) throws ReflectiveOperationException {
        String[] texts = {"", "cut 2;deaf 39 9;", "cut 20;memory 1;plain 39 9;quick 0 1;shy 3 2;deaf 5 5;plain 7 4;talk 0 1 20;"
            + "talk 1 2 1;talk 2 3 2;talk 3 4 3;talk 4 0 19;talk 3 1 2;"};
        for (String text : texts) {
            for (Method method : BargeTalks.class.getDeclaredMethods()) {
                if (java.lang.reflect.Modifier.isPublic(method.getModifiers())) {
                    callWithAll(text, method);
                }
            }
        }
        Checks.finish();
    }

    private static void callWithAll(String text, Method method) throws ReflectiveOperationException {
        int n = method.getParameterCount();
        int ways = (int) Math.pow(EDGES.length, n);
        long[] before = all(Checks.told(text));
        for (int way = 0; way < ways; way++) {
            // One for each way: an object is promised for 512 calls alone.
            BargeTalks x = Checks.told(text);
            Object[] numbers = new Object[n];
            for (int i = 0, rest = way; i < n; i++, rest /= EDGES.length) {
                numbers[i] = EDGES[rest % EDGES.length];
            }
            String call = method.getName() + Arrays.toString(numbers);
            boolean refused = false;
            try {
                refused = ((Number) method.invoke(x, numbers)).longValue() < 0;
            } catch (InvocationTargetException e) {
                Checks.due(call + " threw " + e.getCause(), 1, 0);
            }
            if (refused || !CHANGERS.contains(method.getName())) {
                Checks.due(call + " changed something", Arrays.equals(all(x), before) ? 0 : 1, 0);
            }
        }
    }

    /** All that can be asked without a number that tells how far. */
    private static long[] all(BargeTalks x) {
        List<Long> seen = new ArrayList<>();
        for (int w = 0; w < 8; w++) {
            seen.add((long) x.rule(w));
            seen.add((long) x.count(w));
            for (int b = 0; b < 5; b++) {
                seen.add((long) x.barge(b, w));
            }
            for (int t = 0; t < 6; t++) {
                seen.add((long) x.talk(t, w + 1));
            }
        }
        seen.add((long) x.torn());
        seen.add((long) x.fault());
        for (int b = 0; b < 5; b++) {
            seen.add((long) x.kinds(b));
        }
        return seen.stream().mapToLong(v -> v).toArray();
    }
}
