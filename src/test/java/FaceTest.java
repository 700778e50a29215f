import java.io.IOException;
import java.lang.management.ManagementFactory;
import java.lang.reflect.Constructor;
import java.lang.reflect.Field;
import java.lang.reflect.Method;
import java.lang.reflect.Modifier;
import java.nio.file.Files;
import java.nio.file.Path;
import java.util.Arrays;
import java.util.List;
import java.util.TreeSet;
import java.util.regex.Matcher;
import java.util.regex.Pattern;

/** The face of the document and no other; the words that LANGUAGE.md rules out; the room that calls take. */
public final class FaceTest {
    private static final String FACE = "feed/1 end/1 text/0 fault/0 rule/1 barge/2 talk/2 alter/3 memory/1 start/3 cut/1 "
        + "say/1 hours/1 runs/2 ahead/3 at/2 when/2 again/0 best/4 kind/3 need/1 swap/2 luck/4 mean/3 see/3 forget/1 "
        + "kinds/1 paces/1 ask/2 drift/3 keep/1 back/1 sheet/3 lay/3 read/4 torn/0 count/1";

    public static void main(String[] args) throws IOException {
        constants();
        face();
        classesInside();
        words();
        room();
        Checks.finish();
    }

    private static void constants() {
        Checks.due("BAD", BargeTalks.BAD, -1);
        Checks.due("STATE", BargeTalks.STATE, -2);
        Checks.due("FULL", BargeTalks.FULL, -3);
        Checks.due("NONE", BargeTalks.NONE, -4);
    }

    private static void face() {
        TreeSet<String> due = new TreeSet<>(List.of(FACE.split(" ")));
        TreeSet<String> got = new TreeSet<>();
        for (Method m : BargeTalks.class.getDeclaredMethods()) {
            if (Modifier.isPrivate(m.getModifiers())) {
                Checks.due(m + " bears a public name", (" " + FACE).contains(" " + m.getName() + "/") ? 1 : 0, 0);
                continue;
            }
            got.add(m.getName() + "/" + m.getParameterCount());
            Checks.due(m + " is public, not static", m.getModifiers(), Modifier.PUBLIC);
            Class<?> answer = List.of("luck", "mean").contains(m.getName()) ? long.class : int.class;
            Checks.due(m + " answers " + answer, m.getReturnType() == answer ? 0 : 1, 0);
            Checks.due(m + " takes int alone", Arrays.stream(m.getParameterTypes()).allMatch(p -> p == int.class) ? 0 : 1, 0);
        }
        Checks.due("methods " + got, got.equals(due) ? 0 : 1, 0);
        for (Field f : BargeTalks.class.getDeclaredFields()) {
            boolean constant = List.of("BAD", "STATE", "FULL", "NONE").contains(f.getName());
            Checks.due(f + " is as told", constant || Modifier.isPrivate(f.getModifiers()) ? 0 : 1, 0);
        }
        Constructor<?>[] made = BargeTalks.class.getDeclaredConstructors();
        Checks.due("one constructor", made.length, 1);
        Checks.due("of nothing", made[0].getParameterCount(), 0);
        Checks.due("final", Modifier.isFinal(BargeTalks.class.getModifiers()) ? 0 : 1, 0);
    }

    private static void classesInside() {
        Class<?>[] inside = BargeTalks.class.getDeclaredClasses();
        Checks.due("some twelve classes at most", inside.length < 12 ? 0 : 1, 0);
        for (Class<?> c : inside) {
            Checks.due(c + " is static", Modifier.isStatic(c.getModifiers()) ? 0 : 1, 0);
            Checks.due(c + " is not public", Modifier.isPublic(c.getModifiers()) ? 1 : 0, 0);
            long fields = Arrays.stream(c.getDeclaredFields()).filter(f -> !Modifier.isStatic(f.getModifiers())).count();
            Checks.due(c + " has some twenty fields", fields <= 20 ? 0 : 1, 0);
            for (Method m : c.getDeclaredMethods()) {
                Checks.due(m + " bears a public name", (" " + FACE).contains(" " + m.getName() + "/") ? 1 : 0, 0);
                Checks.due(m + " takes seven at most", m.getParameterCount() <= 7 ? 0 : 1, 0);
            }
        }
    }

    private static void words() throws IOException {
        String source = Files.readString(Path.of("src/main/java/BargeTalks.java"));
        String code = source.replaceAll("(?s)/\\*.*?\\*/", "").replaceAll("//[^\n]*", "").replaceAll("\"[^\"\n]*\"", "\"");
        Pattern ruledOut = Pattern.compile("\\b(throw|throws|try|catch|synchronized|assert|import|package|protected|"
            + "hashCode|toString|equals|\\w*Exact|var|goto|native|volatile|transient|System|Thread|Random)\\b|->|::|\\+ \"|\" \\+");
        Matcher found = ruledOut.matcher(code);
        while (found.find()) {
            Checks.due("word '" + found.group() + "' is ruled out", 1, 0);
        }
        Checks.due("signs 1 to 127 alone", source.chars().allMatch(c -> c >= 1 && c <= 127) ? 0 : 1, 0);
        int from = -1;
        String[] lines = source.split("\n");
        for (int i = 0; i < lines.length; i++) {
            if (lines[i].matches(" +(public|private) .*\\) \\{")) {
                from = i;
            }
            if (from >= 0 && lines[i].matches("( {4}| {8})\\}")) {
                Checks.due("length of the method at line " + (from + 1), i - from <= 60 ? 0 : 1, 0);
            }
        }
    }

    /** Rows are made in constructors: no call takes room, so that all calls of a run live in one. */
    private static void room() {
        com.sun.management.ThreadMXBean bean = (com.sun.management.ThreadMXBean) ManagementFactory.getThreadMXBean();
        BargeTalks x = Checks.told("cut 9;plain 0 1;shy 3 2;deaf 5 3;quick 1 4;plain 2 5;talk 0 1 3;talk 1 2 2;talk 3 4 5;");
        dearCalls(x);
        long thread = Thread.currentThread().getId();
        long before = bean.getThreadAllocatedBytes(thread);
        for (int i = 0; i < 5; i++) {
            dearCalls(x);
        }
        long taken = bean.getThreadAllocatedBytes(thread) - before;
        Checks.due("bytes taken by calls: " + taken, taken < 5000 ? 0 : 1, 0);
    }

    private static void dearCalls(BargeTalks x) {
        x.best(0, 1, 100, 0);
        x.best(0, 2, 100, 0);
        x.kind(0, 100, 0);
        x.need(100);
        x.swap(100, 0);
        x.luck(5, 0, 8, 0);
        x.mean(5, 8, 0);
        x.see(3, 0, 0);
        x.kinds(0);
        x.paces(0);
        x.ask(0, 0);
        x.drift(1, 100, 0);
        x.hours(100);
        x.runs(100, 0);
        x.ahead(0, 100, 0);
        x.when(0, 1);
        x.again();
        x.rule(7);
        x.barge(0, 4);
        x.keep(0);
        x.back(0);
        x.sheet(0, 0, 40);
        x.lay(0, 0, 1);
        x.read(0, 0, 0, 1);
        x.feed('?');
        x.text();
    }
}
