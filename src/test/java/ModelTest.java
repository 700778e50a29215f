import java.util.Random;

/** Runs of calls by a seed, each answer held against the slow model; wrong numbers and broken texts among them. */
public final class ModelTest {
    private static final String[] CALLS = {"feed", "end", "text", "fault", "rule", "barge", "talk", "alter", "memory",
        "start", "cut", "say", "hours", "runs", "ahead", "at", "when", "again", "best", "kind", "need", "swap", "luck",
        "mean", "see", "forget", "kinds", "paces", "ask", "drift", "keep", "back", "sheet", "lay", "read", "torn",
        "count", "look"};
    private static final String[] KINDS = {"plain", "quick", "shy", "deaf"};

    /** What an object is promised for; the calls of lookAtAll; where there is room for a text of any length. */
    private static final int MOST_CALLS = 512, DEAREST = 100, TOLD_AHEAD_OF = 150;

    private final Random random;
    private final BargeTalks x = new BargeTalks();
    private final Model m = new Model();
    private String run = "";
    private int calls = 0;

    private ModelTest(long seed) {
        random = new Random(seed);
        run = "seed " + seed;
    }

    public static void main(String[] args) {
        int runs = args.length > 0 ? Integer.parseInt(args[0]) : 900;
        for (int seed = 0; seed < runs; seed++) {
            new ModelTest(seed).go();
        }
        Checks.finish();
    }

    private void go() {
        while (calls <= MOST_CALLS - DEAREST) {
            if (calls == 0 || calls < TOLD_AHEAD_OF && random.nextInt(30) == 0) {
                tell(random.nextInt(4) > 0 ? text() : spoilt(text()));
            }
            call(CALLS[random.nextInt(CALLS.length)]);
        }
        Checks.due(run + " asks more than is promised", calls > MOST_CALLS ? calls : 0, 0);
    }

    private void tell(String text) {
        for (int i = 0; i < text.length(); i++) {
            due("feed", x.feed(text.charAt(i)), m.feed(text.charAt(i)));
        }
        due("text() of " + text, x.text(), m.text());
        due("fault() of " + text, x.fault(), m.fault());
    }

    private String text() {
        StringBuilder s = new StringBuilder();
        if (random.nextInt(4) > 0) {
            s.append("cut ").append(2 + random.nextInt(random.nextBoolean() ? 5 : 19)).append(';');
        }
        if (random.nextInt(3) > 0) {
            s.append(" memory").append(1 + random.nextInt(random.nextBoolean() ? 8 : 99)).append(" ;");
        }
        int barges = 2 + random.nextInt(4);
        for (int b = 0; b < barges; b++) {
            s.append(KINDS[random.nextInt(4)]).append(' ').append(random.nextInt(40)).append(' ');
            s.append(1 + random.nextInt(9)).append(';');
        }
        int talks = random.nextInt(6);
        for (int t = 0; t < talks; t++) {
            int a = random.nextInt(barges);
            s.append("talk ").append(a).append(' ').append((a + 1 + random.nextInt(barges - 1)) % barges).append(' ');
            s.append(1 + random.nextInt(random.nextBoolean() ? 4 : 20)).append(';');
        }
        return s.toString();
    }

    private String spoilt(String text) {
        StringBuilder s = new StringBuilder(text);
        for (int i = random.nextInt(3); i >= 0; i--) {
            int place = random.nextInt(s.length() + 1);
            switch (random.nextInt(5)) {
                case 0 -> s.insert(place, "0123456789; azAZ.\t/:`{".charAt(random.nextInt(22)));
                case 1 -> s.setLength(place);
                case 2 -> s.insert(0, "talk 0 4 3;");
                case 3 -> s.insert(s.indexOf(";") + 1, "plain 0 1; cut 4;memory 3;".substring(random.nextInt(3)));
                default -> s.append(text, 0, Math.min(text.length(), 40));
            }
        }
        return s.toString();
    }

    private int pick(int least, int most) {
        int way = random.nextInt(40);
        if (way == 0) {
            return least - 1;
        }
        if (way == 1) {
            return most + 1;
        }
        if (way == 2) {
            return random.nextInt();
        }
        return way == 3 ? most : way == 4 ? least : least + random.nextInt(most - least + 1);
    }

    private int barge() {
        return pick(0, Math.max(1, m.rule(0)) - 1);
    }

    private int talk() {
        return pick(0, Math.max(1, m.rule(1)) - 1);
    }

    private int hours() {
        return random.nextInt(3) == 0 ? pick(0, 100) : pick(0, 20);
    }

    private void due(String call, long got, long want) {
        calls++;
        Checks.due(run + " " + call, got, want);
    }

    private void call(String name) {
        int what = pick(0, 1);
        int b = barge();
        int t = talk();
        int n = hours();
        switch (name) {
            case "feed" -> {
                int c = pick(0, 127);
                due("feed", x.feed(c), m.feed(c));
            }
            case "end" -> {
                int e = random.nextInt(3) > 0 ? 0 : pick(0, m.count(2));
                due("end", x.end(e), m.end(e));
            }
            case "text" -> {
                if (random.nextInt(12) == 0) {
                    due("text", x.text(), m.text());
                }
            }
            case "fault" -> due("fault", x.fault(), m.fault());
            case "rule" -> {
                int w = pick(0, 7);
                due("rule " + w, x.rule(w), m.rule(w));
            }
            case "barge" -> {
                int w = pick(0, 4);
                due("barge " + w, x.barge(b, w), m.barge(b, w));
            }
            case "talk" -> {
                int w = pick(0, 8);
                due("talk " + w, x.talk(t, w), m.talk(t, w));
            }
            case "alter" -> {
                int w = pick(0, 2);
                int v = w == 0 ? pick(0, 3) : w == 1 ? pick(0, 2 * m.rule(3) - 1) : pick(1, 9);
                due("alter " + w, x.alter(b, w, v), m.alter(b, w, v));
            }
            case "memory" -> {
                int v = random.nextBoolean() ? pick(1, 6) : pick(1, 99);
                due("memory", x.memory(v), m.memory(v));
            }
            case "start" -> {
                int c = barge();
                int need = pick(1, 20);
                due("start", x.start(b, c, need), m.start(b, c, need));
            }
            case "cut" -> {
                int c = random.nextInt(3) > 0 ? m.rule(1) : pick(0, m.rule(1));
                due("cut", x.cut(c), m.cut(c));
            }
            case "say" -> due("say", x.say(t), m.say(t));
            case "look" -> lookAtAll();
            default -> callBySteps(name, b, t, n, what);
        }
    }

    private void callBySteps(String name, int b, int t, int n, int what) {
        int v = pick(0, 10);
        int n8 = random.nextInt(4) == 0 ? pick(0, 8) : pick(0, 4);
        int n20 = pick(0, 20);
        int which = pick(1, 2);
        int w3 = pick(0, 3);
        int c = barge();
        switch (name) {
            case "hours" -> due("hours " + n, x.hours(n), m.hours(n));
            case "runs" -> due("runs " + n + " " + w3, x.runs(n, w3), m.runs(n, w3));
            case "ahead" -> due("ahead " + t + " " + n + " " + what, x.ahead(t, n, what), m.ahead(t, n, what));
            case "at" -> due("at", x.at(b, n), m.at(b, n));
            case "when" -> due("when", x.when(b, c), m.when(b, c));
            case "again" -> due("again", x.again(), m.again());
            case "best" -> due("best " + which + " " + n, x.best(b, which, n, what), m.best(b, which, n, what));
            case "kind" -> due("kind " + n, x.kind(b, n, what), m.kind(b, n, what));
            case "need" -> due("need " + n, x.need(n), m.need(n));
            case "swap" -> due("swap " + n, x.swap(n, what), m.swap(n, what));
            case "luck" -> due("luck " + v + " " + n8, x.luck(v, t, n8, what), m.luck(v, t, n8, what));
            case "mean" -> due("mean " + v + " " + n8, x.mean(v, n8, what), m.mean(v, n8, what));
            case "see" -> {
                int said = random.nextInt(3) > 0 ? m.ahead(t, n20, 0) : pick(0, 20);
                due("see", x.see(n20, t, said), m.see(n20, t, said));
            }
            case "forget" -> {
                int f = pick(0, m.count(0));
                due("forget", x.forget(f), m.forget(f));
            }
            case "kinds" -> due("kinds", x.kinds(b), m.kinds(b));
            case "paces" -> due("paces", x.paces(b), m.paces(b));
            case "ask" -> due("ask", x.ask(b, what), m.ask(b, what));
            case "drift" -> {
                int seed = random.nextInt();
                int hours = pick(1, 100);
                due("drift", x.drift(seed, hours, what), m.drift(seed, hours, what));
            }
            case "keep" -> due("keep", x.keep(what), m.keep(what));
            case "back" -> due("back", x.back(what), m.back(what));
            default -> callOfSheets(name);
        }
    }

    private void callOfSheets(String name) {
        int k = random.nextInt(6) > 0 ? 0 : pick(0, 3);
        int lane = random.nextInt(6) > 0 ? 0 : pick(0, 2);
        switch (name) {
            case "sheet" -> {
                int n = pick(0, 40);
                due("sheet", x.sheet(k, lane, n), m.sheet(k, lane, n));
            }
            case "lay" -> {
                for (int i = 0; i < 6; i++) {
                    int cell = pick(0, 15);
                    int v = random.nextInt(8) == 0 ? pick(-70000, 70000) : random.nextInt(5);
                    due("lay", x.lay(k, cell, v), m.lay(k, cell, v));
                }
            }
            case "read" -> {
                int f = random.nextInt(3) == 0 ? pick(0, 41) : pick(0, 6);
                int n = random.nextBoolean() ? pick(0, 2) : pick(0, 13);
                due("read", x.read(k, lane, f, n), m.read(k, lane, f, n));
                due("torn", x.torn(), m.torn());
            }
            case "torn" -> due("torn", x.torn(), m.torn());
            default -> {
                int w = pick(0, 5);
                due("count " + w, x.count(w), m.count(w));
            }
        }
    }

    private void lookAtAll() {
        for (int w = 0; w <= 7; w++) {
            due("rule " + w, x.rule(w), m.rule(w));
        }
        for (int b = 0; b < 5; b++) {
            for (int w = 0; w <= 4; w++) {
                due("barge " + b + " " + w, x.barge(b, w), m.barge(b, w));
            }
        }
        for (int t = 0; t < 6; t++) {
            for (int w = 0; w <= 8; w++) {
                due("talk " + t + " " + w, x.talk(t, w), m.talk(t, w));
            }
        }
        for (int w = 0; w <= 5; w++) {
            due("count " + w, x.count(w), m.count(w));
        }
    }
}
