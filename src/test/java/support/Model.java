import java.math.BigInteger;
import java.util.ArrayList;
import java.util.HashMap;
import java.util.List;
import java.util.Map;
import java.util.regex.Matcher;
import java.util.regex.Pattern;

/**
 * The document once more, as slow and as plain as can be, to be held against the class: every question is
 * answered by trying all that could be, on copies; sheets are Java's own rows whose faults the machine finds.
 */
final class Model {
    static final int BAD = -1, STATE = -2, FULL = -3, NONE = -4;

    private static final class Barge {
        int kind, phase, pace;

        Barge(int kind, int phase, int pace) {
            this.kind = kind;
            this.phase = phase;
            this.pace = pace;
        }
    }

    private static final class Talk {
        int first, second, need, said, since, ended, lost, ends, losses;
        boolean nod;

        Talk(int first, int second, int need) {
            this.first = first;
            this.second = second;
            this.need = need;
        }
    }

    private static final class World {
        int cut = 10, memory = 40, hour, words, meetings;
        List<Barge> barges = new ArrayList<>();
        List<Talk> talks = new ArrayList<>();
        List<int[]> seen = new ArrayList<>();
        boolean[][] meet = new boolean[5][5];

        World twin() {
            World w = new World();
            w.cut = cut;
            w.memory = memory;
            w.hour = hour;
            for (Barge b : barges) {
                w.barges.add(new Barge(b.kind, b.phase, b.pace));
            }
            for (Talk t : talks) {
                Talk u = new Talk(t.first, t.second, t.need);
                u.said = t.said;
                u.since = t.since;
                u.ended = t.ended;
                u.lost = t.lost;
                u.nod = t.nod;
                w.talks.add(u);
            }
            for (int[] s : seen) {
                w.seen.add(s.clone());
            }
            return w;
        }

        int place(int b) {
            int phase = barges.get(b).phase;
            return phase <= cut ? phase : 2 * cut - phase;
        }

        int met(int b) {
            int n = 0;
            for (int a = 0; a < barges.size(); a++) {
                if (meet[a][b]) {
                    n++;
                }
            }
            return n;
        }

        void go(boolean fog) {
            int n = barges.size();
            int[] was = new int[n];
            for (int b = 0; b < n; b++) {
                was[b] = place(b);
            }
            for (Barge b : barges) {
                for (int step = 0; step < b.pace; step++) {
                    b.phase = b.phase == 2 * cut - 1 ? 0 : b.phase + 1;
                }
            }
            for (int a = 0; a < n; a++) {
                for (int b = 0; b < n; b++) {
                    boolean same = place(a) == place(b);
                    boolean passed = was[a] < was[b] && place(a) > place(b) || was[b] < was[a] && place(b) > place(a);
                    meet[a][b] = a != b && !fog && (same || passed);
                    if (a < b && meet[a][b]) {
                        meetings++;
                    }
                }
            }
        }

        int says(Talk t, int met) {
            int kind = barges.get(t.said % 2 == 0 ? t.first : t.second).kind;
            int plain = 1;
            int quick = 2 * plain;
            int shy = met > 1 ? 0 : plain;
            if (kind == 0) {
                return plain;
            } else if (kind == 1) {
                return quick;
            } else if (kind == 2) {
                return shy;
            }
            if (!t.nod) {
                t.nod = true;
                return 0;
            }
            t.nod = false;
            return shy;
        }

        void take(Talk t, int said) {
            words += said;
            t.said = Math.min(t.need, t.said + said);
            if (said > 0) {
                t.since = 0;
            }
        }

        void endIfAllIsSaid(Talk t) {
            if (t.said == t.need) {
                t.ends++;
                t.ended = Math.min(999, t.ended + 1);
                t.said = 0;
                t.since = 0;
                t.nod = false;
            }
        }

        void hour(boolean fog) {
            go(fog);
            for (Talk t : talks) {
                boolean together = meet[t.first][t.second];
                int said = together ? says(t, met(t.said % 2 == 0 ? t.first : t.second)) : 0;
                if (together) {
                    take(t, said);
                }
                if (said == 0) {
                    if (t.said > 0) {
                        t.since++;
                    }
                    if (t.since > memory) {
                        t.losses++;
                        t.lost = Math.min(999, t.lost + 1);
                        t.said = 0;
                        t.since = 0;
                        t.nod = false;
                    }
                }
                endIfAllIsSaid(t);
            }
            hour++;
        }

        World later(int n) {
            World w = twin();
            for (int i = 0; i < n; i++) {
                w.hour(false);
            }
            return w;
        }

        int ends() {
            return talks.stream().mapToInt(t -> t.ends).sum();
        }

        int losses() {
            return talks.stream().mapToInt(t -> t.losses).sum();
        }
    }

    private World world = new World();
    private final World[] images = new World[2];
    private final StringBuilder tape = new StringBuilder();
    private int fault;
    private final Object[] sheets = new Object[4];
    private int torn;

    private boolean barge(int b) {
        return b >= 0 && b < world.barges.size();
    }

    private boolean talk(int t) {
        return t >= 0 && t < world.talks.size();
    }

    private static boolean in(int v, int least, int most) {
        return least <= v && v <= most;
    }

    int feed(int c) {
        if (!in(c, 0, 127)) {
            return BAD;
        }
        if (tape.length() == 160) {
            return FULL;
        }
        tape.append((char) c);
        return tape.length();
    }

    int end(int n) {
        int had = tape.length();
        if (!in(n, 0, had)) {
            return BAD;
        }
        tape.setLength(n);
        return had;
    }

    private static final class Fault extends Exception {
        private static final long serialVersionUID = 1;
        final int which, place;

        Fault(int which, int place) {
            this.which = which;
            this.place = place;
        }
    }

    private static final Pattern TOKEN = Pattern.compile("\\G *(?:([a-z]+)|([0-9]+)|(;)|(\\z)|())");

    private Matcher token(Matcher at, int group) throws Fault {
        if (!at.find()) {
            throw new IllegalStateException();
        }
        String number = at.group(2);
        int place = at.end();
        for (int g = 1; g <= 4; g++) {
            if (at.group(g) != null) {
                place = at.start(g);
            }
        }
        if (at.group(5) != null || number != null && number.length() > 2) {
            throw new Fault(1, place);
        }
        if (group == 1 && at.group(4) != null) {
            return null;
        }
        if (at.group(group) == null) {
            throw new Fault(2, place);
        }
        return at;
    }

    private int number(Matcher at, int least, int most) throws Fault {
        int v = Integer.parseInt(token(at, 2).group(2));
        if (v < least || v > most) {
            throw new Fault(3, at.start(2));
        }
        return v;
    }

    private int parse(String text, World w) throws Fault {
        Matcher at = TOKEN.matcher(text);
        Map<String, Integer> told = new HashMap<>();
        int lines = 0;
        while (token(at, 1) != null) {
            String name = at.group(1);
            int place = at.start(1);
            int kind = List.of("plain", "quick", "shy", "deaf").indexOf(name);
            if (name.equals("cut") || name.equals("memory")) {
                if (told.put(name, 1) != null) {
                    throw new Fault(4, place);
                }
                if (name.equals("cut")) {
                    w.cut = number(at, 2, 20);
                } else {
                    w.memory = number(at, 1, 99);
                }
            } else if (kind >= 0) {
                if (w.barges.size() == 5) {
                    throw new Fault(5, place);
                }
                int phase = number(at, 0, 39);
                w.barges.add(new Barge(kind, phase, number(at, 1, 9)));
            } else if (name.equals("talk")) {
                if (w.talks.size() == 6) {
                    throw new Fault(5, place);
                }
                int a = number(at, 0, 4);
                int b = number(at, 0, 4);
                if (a == b) {
                    throw new Fault(4, at.start(2));
                }
                w.talks.add(new Talk(a, b, number(at, 1, 20)));
            } else {
                throw new Fault(2, place);
            }
            token(at, 3);
            lines++;
        }
        for (Talk t : w.talks) {
            if (Math.max(t.first, t.second) >= w.barges.size()) {
                throw new Fault(6, text.length());
            }
        }
        w.barges.forEach(b -> b.phase %= 2 * w.cut);
        return lines;
    }

    int text() {
        String text = tape.toString();
        tape.setLength(0);
        World w = new World();
        try {
            int lines = parse(text, w);
            fault = 0;
            world = w;
            images[0] = null;
            images[1] = null;
            return lines;
        } catch (Fault f) {
            fault = f.which;
            return -10 - f.place;
        }
    }

    int fault() {
        return fault;
    }

    int rule(int what) {
        World next = world.twin();
        next.go(false);
        int[] all = {world.barges.size(), world.talks.size(), world.hour, world.cut, world.memory,
            world.talks.stream().mapToInt(t -> t.ended).sum(), world.talks.stream().mapToInt(t -> t.lost).sum(),
            next.meetings};
        return in(what, 0, 7) ? all[what] : BAD;
    }

    int barge(int b, int what) {
        if (!barge(b) || !in(what, 0, 4)) {
            return BAD;
        }
        World next = world.twin();
        next.go(false);
        Barge x = world.barges.get(b);
        return new int[] {x.kind, x.phase, x.pace, world.place(b), next.met(b)}[what];
    }

    int talk(int t, int what) {
        if (!talk(t) || !in(what, 0, 8)) {
            return BAD;
        }
        Talk x = world.talks.get(t);
        return new int[] {x.first, x.second, x.need, x.said, x.since, x.ended, x.lost,
            x.said % 2 == 0 ? x.first : x.second, x.nod ? 1 : 0}[what];
    }

    private static int set(World w, int b, int what, int v) {
        Barge x = w.barges.get(b);
        int had = what == 0 ? x.kind : what == 1 ? x.phase : x.pace;
        if (what == 0) {
            x.kind = v;
        } else if (what == 1) {
            x.phase = v;
        } else {
            x.pace = v;
        }
        return had;
    }

    int alter(int b, int what, int v) {
        if (!barge(b) || !in(what, 0, 2)) {
            return BAD;
        }
        int least = what == 2 ? 1 : 0;
        int most = what == 0 ? 3 : what == 1 ? 2 * world.cut - 1 : 9;
        return in(v, least, most) ? set(world, b, what, v) : BAD;
    }

    int memory(int v) {
        int had = world.memory;
        if (!in(v, 1, 99)) {
            return BAD;
        }
        world.memory = v;
        return had;
    }

    int start(int a, int b, int need) {
        if (!barge(a) || !barge(b) || a == b || !in(need, 1, 20)) {
            return BAD;
        }
        if (world.talks.size() == 6) {
            return FULL;
        }
        world.talks.add(new Talk(a, b, need));
        return world.talks.size();
    }

    private static <T> int shorten(List<T> list, int n) {
        int had = list.size();
        if (!in(n, 0, had)) {
            return BAD;
        }
        list.subList(n, had).clear();
        return had;
    }

    int cut(int n) {
        return shorten(world.talks, n);
    }

    int say(int t) {
        if (!talk(t)) {
            return BAD;
        }
        Talk x = world.talks.get(t);
        int said = world.says(x, 1);
        world.take(x, said);
        world.endIfAllIsSaid(x);
        return said;
    }

    int hours(int n) {
        if (!in(n, 0, 100)) {
            return BAD;
        }
        if (world.hour + n >= 10000) {
            return FULL;
        }
        world = world.later(n);
        return world.ends();
    }

    int runs(int n, int what) {
        if (!in(n, 0, 100) || !in(what, 0, 3)) {
            return BAD;
        }
        World w = world.later(n);
        return new int[] {w.ends(), w.losses(), w.words, w.meetings}[what];
    }

    int ahead(int t, int n, int what) {
        if (!talk(t) || !in(n, 0, 100) || !in(what, 0, 1)) {
            return BAD;
        }
        Talk x = world.later(n).talks.get(t);
        return what == 0 ? x.said : x.ends;
    }

    int at(int b, int n) {
        return barge(b) && in(n, 0, 100) ? world.later(n).place(b) : BAD;
    }

    int when(int a, int b) {
        if (!barge(a) || !barge(b) || a == b) {
            return BAD;
        }
        for (int n = 0; n <= 100; n++) {
            if (world.later(n + 1).meet[a][b]) {
                return n;
            }
        }
        return NONE;
    }

    int again() {
        for (int n = 1; n <= 100; n++) {
            World w = world.later(n);
            boolean all = true;
            for (int b = 0; b < world.barges.size(); b++) {
                all &= w.barges.get(b).phase == world.barges.get(b).phase;
            }
            if (all) {
                return n;
            }
        }
        return NONE;
    }

    private int most(int b, int which, int least, int most, int n, int what) {
        int value = -1;
        int ends = -1;
        for (int v = most; v >= least; v--) {
            World w = world.twin();
            set(w, b, which, v);
            int e = w.later(n).ends();
            if (e >= ends) {
                ends = e;
                value = v;
            }
        }
        return what == 0 ? value : ends;
    }

    int best(int b, int which, int n, int what) {
        if (!barge(b) || !in(which, 1, 2) || !in(n, 0, 100) || !in(what, 0, 1)) {
            return BAD;
        }
        return which == 1 ? most(b, 1, 0, 2 * world.cut - 1, n, what) : most(b, 2, 1, 9, n, what);
    }

    int kind(int b, int n, int what) {
        return barge(b) && in(n, 0, 100) && in(what, 0, 1) ? most(b, 0, 0, 3, n, what) : BAD;
    }

    int need(int n) {
        if (!in(n, 0, 100)) {
            return BAD;
        }
        for (int m = 1; m <= 99; m++) {
            World w = world.twin();
            w.memory = m;
            if (w.later(n).losses() == 0) {
                return m;
            }
        }
        return NONE;
    }

    int swap(int n, int what) {
        if (!in(n, 0, 100) || !in(what, 0, 1)) {
            return BAD;
        }
        int ends = world.later(n).ends();
        int answer = NONE;
        for (int pair = 1; pair < 50; pair++) {
            int a = pair / 10;
            int b = pair % 10;
            if (a < b && b < world.barges.size()) {
                World w = world.twin();
                set(w, a, 2, set(w, b, 2, w.barges.get(a).pace));
                int e = w.later(n).ends();
                if (e > ends) {
                    ends = e;
                    answer = pair;
                }
            }
        }
        return answer == NONE || what == 0 ? answer : ends;
    }

    private interface Measure {
        long of(World end);
    }

    private long inFog(int v, int n, int what, Measure measure) {
        BigInteger sum = BigInteger.ZERO;
        for (int mask = 0; mask < 1 << n; mask++) {
            World w = world.twin();
            long weight = 1;
            for (int h = 0; h < n; h++) {
                boolean fog = (mask >> h & 1) == 1;
                weight *= fog ? v : 10 - v;
                w.hour(fog);
            }
            sum = sum.add(BigInteger.valueOf(weight).multiply(BigInteger.valueOf(measure.of(w))));
        }
        BigInteger below = BigInteger.TEN.pow(n);
        BigInteger g = sum.gcd(below);
        return (what == 0 ? sum : below).divide(g).longValueExact();
    }

    long luck(int v, int t, int n, int what) {
        if (!in(v, 0, 10) || !talk(t) || !in(n, 0, 8) || !in(what, 0, 1)) {
            return BAD;
        }
        return inFog(v, n, what, w -> w.talks.get(t).ends == 0 ? 1 : 0);
    }

    long mean(int v, int n, int what) {
        if (!in(v, 0, 10) || !in(n, 0, 8) || !in(what, 0, 1)) {
            return BAD;
        }
        return inFog(v, n, what, w -> w.words);
    }

    int see(int n, int t, int v) {
        if (!in(n, 0, 20) || !talk(t) || !in(v, 0, 20)) {
            return BAD;
        }
        if (world.seen.size() == 6) {
            return FULL;
        }
        world.seen.add(new int[] {n, t, v});
        return world.seen.size();
    }

    int forget(int n) {
        return shorten(world.seen, n);
    }

    private boolean asSeen(int b, int which, int v) {
        for (int[] s : world.seen) {
            World w = world.twin();
            set(w, b, which, v);
            w = w.later(s[0]);
            if (s[1] >= w.talks.size() || w.talks.get(s[1]).said != s[2]) {
                return false;
            }
        }
        return true;
    }

    int kinds(int b) {
        if (!barge(b)) {
            return BAD;
        }
        int bits = 0;
        for (int v = 0; v <= 3; v++) {
            bits |= asSeen(b, 0, v) ? 1 << v : 0;
        }
        return bits;
    }

    int paces(int b) {
        if (!barge(b)) {
            return BAD;
        }
        int bits = 0;
        for (int v = 1; v <= 9; v++) {
            bits |= asSeen(b, 2, v) ? 1 << v : 0;
        }
        return bits;
    }

    int ask(int b, int what) {
        if (!barge(b) || !in(what, 0, 1)) {
            return BAD;
        }
        int paces = paces(b);
        int fewest = Integer.bitCount(paces);
        int answer = NONE;
        for (int h = 0; h <= 20; h++) {
            for (int t = 0; t < world.talks.size(); t++) {
                Map<Integer, Integer> groups = new HashMap<>();
                for (int p = 1; p <= 9; p++) {
                    if ((paces >> p & 1) == 1) {
                        World w = world.twin();
                        set(w, b, 2, p);
                        groups.merge(w.later(h).talks.get(t).said, 1, Integer::sum);
                    }
                }
                int worst = groups.values().stream().mapToInt(g -> g).max().orElse(0);
                if (worst < fewest) {
                    fewest = worst;
                    answer = 10 * h + t;
                }
            }
        }
        return what == 0 || answer == NONE ? answer : fewest;
    }

    int drift(int seed, int n, int what) {
        if (!in(n, 1, 100) || !in(what, 0, 1)) {
            return BAD;
        }
        if (world.barges.isEmpty()) {
            return STATE;
        }
        World w = world.twin();
        BigInteger s = BigInteger.valueOf(seed);
        for (int h = 0; h < n; h++) {
            s = s.multiply(BigInteger.valueOf(1103515245)).add(BigInteger.valueOf(12345));
            int got = 0;
            for (int bit = 16; bit <= 30; bit++) {
                got += s.testBit(bit) ? 1 << bit - 16 : 0;
            }
            w.barges.get(got % w.barges.size()).pace = got / 8 % 9 + 1;
            w.hour(false);
        }
        return what == 0 ? w.ends() : w.words;
    }

    int keep(int k) {
        if (!in(k, 0, 1)) {
            return BAD;
        }
        int was = images[k] == null ? 0 : 1;
        images[k] = world.twin();
        return was;
    }

    int back(int k) {
        if (!in(k, 0, 1)) {
            return BAD;
        }
        if (images[k] == null) {
            return STATE;
        }
        world = images[k].twin();
        return world.hour;
    }

    int sheet(int k, int lane, int n) {
        if (!in(k, 0, 3) || !in(lane, 0, 2) || n > 40) {
            return BAD;
        }
        try {
            sheets[k] = lane == 0 ? new byte[n] : lane == 1 ? new short[n] : new int[n];
            return 1;
        } catch (NegativeArraySizeException e) {
            return -14;
        }
    }

    int lay(int k, int i, int v) {
        if (!in(k, 0, 3)) {
            return BAD;
        }
        try {
            if (sheets[k] instanceof byte[] row) {
                row[i] = (byte) v;
            } else if (sheets[k] instanceof short[] row) {
                row[i] = (short) v;
            } else {
                ((int[]) sheets[k])[i] = v;
            }
            return 1;
        } catch (NullPointerException e) {
            return -11;
        } catch (ArrayIndexOutOfBoundsException e) {
            return -12;
        }
    }

    int read(int k, int lane, int f, int n) {
        if (!in(k, 0, 3) || !in(lane, 0, 2) || !in(n, 0, 13)) {
            return BAD;
        }
        int had = world.talks.size();
        int found = 0;
        int came = 0;
        try {
            for (int i = 0; i < n; i++) {
                int[] cell = new int[3];
                for (int j = 0; j < 3; j++) {
                    cell[j] = cellTakenAs(lane, sheets[k], f + 3 * i + j);
                }
                if (start(cell[0], cell[1], cell[2]) < 0) {
                    cut(had);
                    return -20 - i;
                }
                came++;
            }
        } catch (NullPointerException e) {
            found = 1;
        } catch (ArrayIndexOutOfBoundsException e) {
            found = 2;
        } catch (ClassCastException e) {
            found = 3;
        }
        torn = found;
        return came;
    }

    /** The sheet is taken as of the lane anew for each cell, so a read that asks for none takes nothing. */
    private static int cellTakenAs(int lane, Object sheet, int at) {
        return lane == 0 ? ((byte[]) sheet)[at] : lane == 1 ? ((short[]) sheet)[at] : ((int[]) sheet)[at];
    }

    int torn() {
        return torn;
    }

    int count(int what) {
        int cells = sheets[0] == null ? NONE : java.lang.reflect.Array.getLength(sheets[0]);
        int[] all = {world.seen.size(), (images[0] == null ? 0 : 1) + (images[1] == null ? 0 : 1), tape.length(), cells,
            world.barges.stream().mapToInt(b -> b.pace).sum(), world.talks.stream().mapToInt(t -> t.need).sum()};
        return in(what, 0, 5) ? all[what] : BAD;
    }
}
