/**
 * Barges on a cut, and the talks of two that go on by a word each time they meet.
 *
 * Every row is made once, in a constructor, and used again by each call: all calls of a run share one room.
 */
public final class BargeTalks {
    public static final int BAD = -1, STATE = -2, FULL = -3, NONE = -4;

    private static final int MOST_BARGES = 5, MOST_TALKS = 6, MOST_SEEN = 6, IMAGES = 2;
    private static final int KINDS = 4, PLAIN = 0, QUICK = 1, SHY = 2, DEAF = 3;
    private static final int LEAST_CUT = 2, MOST_CUT = 20, FIRST_CUT = 10, MOST_TOLD_PHASE = 39;
    private static final int MOST_PACE = 9, MOST_NEED = 20, MOST_COUNTED = 999;
    private static final int MOST_MEMORY = 99, FIRST_MEMORY = 40, ENDLESS_MEMORY = 1000000;
    private static final int MOST_HOURS = 100, HOURS_HEARD = 20, HOURS_OF_FOG = 8, HOUR_LIMIT = 10000;
    private static final int TAPE_BYTES = 160, FAULT_BASE = -10, REFUSED_BASE = -20;
    private static final int SHEETS = 4, BYTES = 0, SHORTS = 1, INTS = 2, MOST_CELLS = 40, MOST_READ = 13;
    private static final int NULL_FAULT = 1, INDEX_FAULT = 2, CAST_FAULT = 3, SIZE_FAULT = 4, NOTHING = -1;

    private final Canal now = new Canal();
    /** What is tried out, so that the canal itself stays as it is. */
    private final Canal trial = new Canal();
    private final Canal[] images = new Canal[IMAGES];
    private final boolean[] kept = new boolean[IMAGES];

    private final Tape tape = new Tape();
    private final Fog fog = new Fog();
    /** By each KIND or PACE that is tried: what is SAID of each TALK behind 0 to 20 HOURS. */
    private final int[][] heard = new int[MOST_PACE + 1][(HOURS_HEARD + 1) * MOST_TALKS];
    private final int[] tally = new int[MOST_NEED + 1];

    private final int[][] cells = new int[SHEETS][MOST_CELLS];
    private final int[] laneOf = new int[SHEETS];
    private final int[] sizeOf = new int[SHEETS];
    private int tornFault;

    public BargeTalks() {
        for (int k = 0; k < IMAGES; k++) {
            images[k] = new Canal();
        }
        for (int k = 0; k < SHEETS; k++) {
            sizeOf[k] = NOTHING;
        }
    }

    // ---- the text

    public int feed(int c) {
        if (!within(c, 0, 127)) {
            return BAD;
        }
        if (tape.length >= TAPE_BYTES) {
            return FULL;
        }
        tape.bytes[tape.length] = (byte) c;
        tape.length++;
        return tape.length;
    }

    public int end(int n) {
        if (!within(n, 0, tape.length)) {
            return BAD;
        }
        int had = tape.length;
        tape.length = n;
        return had;
    }

    public int text() {
        int lines = tape.readAll();
        tape.length = 0;
        if (tape.fault != 0) {
            return FAULT_BASE - tape.faultPlace;
        }
        now.copy(tape.told);
        for (int k = 0; k < IMAGES; k++) {
            kept[k] = false;
        }
        return lines;
    }

    public int fault() {
        return tape.fault;
    }

    public int rule(int what) {
        switch (what) {
            case 0:
                return now.barges;
            case 1:
                return now.talks;
            case 2:
                return now.hour;
            case 3:
                return now.length;
            case 4:
                return now.memoryHours;
            case 5:
                return now.sumOfTalks(Talk.ENDED);
            case 6:
                return now.sumOfTalks(Talk.LOST);
            case 7:
                return lookAhead().meetings;
            default:
                return BAD;
        }
    }

    public int barge(int b, int what) {
        if (!now.hasBarge(b)) {
            return BAD;
        }
        switch (what) {
            case 0:
                return now.kindOf[b];
            case 1:
                return now.phaseOf[b];
            case 2:
                return now.paceOf[b];
            case 3:
                return now.placeOf(now.phaseOf[b]);
            case 4:
                return lookAhead().met[b];
            default:
                return BAD;
        }
    }

    public int talk(int t, int what) {
        if (!now.hasTalk(t) || !within(what, 0, 8)) {
            return BAD;
        }
        return now.rows[t].tell(what);
    }

    // ---- what is changed

    public int alter(int b, int what, int v) {
        if (!now.hasBarge(b) || !now.mayBe(what, v)) {
            return BAD;
        }
        return now.put(b, what, v);
    }

    public int memory(int v) {
        if (!within(v, 1, MOST_MEMORY)) {
            return BAD;
        }
        int had = now.memoryHours;
        now.memoryHours = v;
        return had;
    }

    public int start(int a, int b, int need) {
        if (!now.hasBarge(a) || !now.hasBarge(b) || a == b || !within(need, 1, MOST_NEED)) {
            return BAD;
        }
        if (now.talks >= MOST_TALKS) {
            return FULL;
        }
        now.addTalk(a, b, need);
        return now.talks;
    }

    public int cut(int n) {
        if (!within(n, 0, now.talks)) {
            return BAD;
        }
        int had = now.talks;
        now.talks = n;
        return had;
    }

    public int say(int t) {
        if (!now.hasTalk(t)) {
            return BAD;
        }
        Talk spoken = now.rows[t];
        int words = spoken.wordsOf(now.kindOf[spoken.turn()], 1);
        if (words > 0) {
            spoken.goOn(words);
        }
        return words;
    }

    // ---- hours

    public int hours(int n) {
        if (!within(n, 0, MOST_HOURS)) {
            return BAD;
        }
        if (now.hour + n >= HOUR_LIMIT) {
            return FULL;
        }
        now.clearCounts();
        now.passHours(n);
        return now.sumOfTalks(Talk.ENDINGS);
    }

    public int runs(int n, int what) {
        if (!within(n, 0, MOST_HOURS) || !within(what, 0, 3)) {
            return BAD;
        }
        tryFromNow();
        trial.passHours(n);
        switch (what) {
            case 0:
                return trial.sumOfTalks(Talk.ENDINGS);
            case 1:
                return trial.sumOfTalks(Talk.LOSSES);
            case 2:
                return trial.words;
            default:
                return trial.meetings;
        }
    }

    public int ahead(int t, int n, int what) {
        if (!now.hasTalk(t) || !within(n, 0, MOST_HOURS) || !within(what, 0, 1)) {
            return BAD;
        }
        tryFromNow();
        trial.passHours(n);
        return what == 0 ? trial.rows[t].said : trial.rows[t].endings;
    }

    public int at(int b, int n) {
        if (!now.hasBarge(b) || !within(n, 0, MOST_HOURS)) {
            return BAD;
        }
        return now.placeOf(now.phaseBehind(b, n));
    }

    public int when(int a, int b) {
        if (!now.hasBarge(a) || !now.hasBarge(b) || a == b) {
            return BAD;
        }
        tryFromNow();
        for (int h = 0; h <= MOST_HOURS; h++) {
            trial.move();
            if (trial.doMeet(a, b)) {
                return h;
            }
        }
        return NONE;
    }

    public int again() {
        for (int h = 1; h <= MOST_HOURS; h++) {
            if (now.allBackBehind(h)) {
                return h;
            }
        }
        return NONE;
    }

    // ---- what is best

    public int best(int b, int which, int n, int what) {
        if (!now.hasBarge(b) || !within(which, 1, 2) || !within(n, 0, MOST_HOURS) || !within(what, 0, 1)) {
            return BAD;
        }
        return mostEnded(b, which, n, what);
    }

    public int kind(int b, int n, int what) {
        if (!now.hasBarge(b) || !within(n, 0, MOST_HOURS) || !within(what, 0, 1)) {
            return BAD;
        }
        return mostEnded(b, Canal.KIND, n, what);
    }

    public int need(int n) {
        if (!within(n, 0, MOST_HOURS)) {
            return BAD;
        }
        // Where nothing is forgotten, the longest silence is the least MEMORY that it takes.
        tryFromNow();
        trial.memoryHours = ENDLESS_MEMORY;
        int least = 1;
        for (int h = 0; h < n; h++) {
            trial.passHour();
            least = Math.max(least, trial.longestSilence());
        }
        return least > MOST_MEMORY ? NONE : least;
    }

    public int swap(int n, int what) {
        if (!within(n, 0, MOST_HOURS) || !within(what, 0, 1)) {
            return BAD;
        }
        tryFromNow();
        trial.passHours(n);
        int most = trial.sumOfTalks(Talk.ENDINGS);
        int pair = NONE;
        for (int a = 0; a < now.barges; a++) {
            for (int b = a + 1; b < now.barges; b++) {
                int ends = endingsIfSwapped(a, b, n);
                if (ends > most) {
                    most = ends;
                    pair = 10 * a + b;
                }
            }
        }
        return what == 0 || pair == NONE ? pair : most;
    }

    // ---- fog

    public long luck(int v, int t, int n, int what) {
        if (!within(v, 0, 10) || !now.hasTalk(t) || !within(n, 0, HOURS_OF_FOG) || !within(what, 0, 1)) {
            return BAD;
        }
        tryFromNow();
        fog.watch(trial, t, n, v);
        return partOfFraction(fog.waysWithoutEnd(0), Fog.allWays(n), what);
    }

    public long mean(int v, int n, int what) {
        if (!within(v, 0, 10) || !within(n, 0, HOURS_OF_FOG) || !within(what, 0, 1)) {
            return BAD;
        }
        long words = 0;
        for (int t = 0; t < now.talks; t++) {
            tryFromNow();
            fog.watch(trial, t, n, v);
            words += fog.wordsInAllWays(0);
        }
        return partOfFraction(words, Fog.allWays(n), what);
    }

    // ---- from how far talks had come

    public int see(int n, int t, int v) {
        if (!within(n, 0, HOURS_HEARD) || !now.hasTalk(t) || !within(v, 0, MOST_NEED)) {
            return BAD;
        }
        if (now.seen >= MOST_SEEN) {
            return FULL;
        }
        now.addSeen(n, t, v);
        return now.seen;
    }

    public int forget(int n) {
        if (!within(n, 0, now.seen)) {
            return BAD;
        }
        int had = now.seen;
        now.seen = n;
        return had;
    }

    public int kinds(int b) {
        if (!now.hasBarge(b)) {
            return BAD;
        }
        return valuesAsSeen(b, Canal.KIND);
    }

    public int paces(int b) {
        if (!now.hasBarge(b)) {
            return BAD;
        }
        return valuesAsSeen(b, Canal.PACE);
    }

    public int ask(int b, int what) {
        if (!now.hasBarge(b) || !within(what, 0, 1)) {
            return BAD;
        }
        int paces = valuesAsSeen(b, Canal.PACE);
        int fewest = Integer.bitCount(paces);
        int question = NONE;
        for (int h = 0; h <= HOURS_HEARD; h++) {
            for (int t = 0; t < now.talks; t++) {
                int left = leftAtWorst(paces, h * MOST_TALKS + t);
                if (left < fewest) {
                    fewest = left;
                    question = 10 * h + t;
                }
            }
        }
        return what == 0 || question == NONE ? question : fewest;
    }

    // ---- by a seed

    public int drift(int seed, int n, int what) {
        if (!within(n, 1, MOST_HOURS) || !within(what, 0, 1)) {
            return BAD;
        }
        if (now.barges <= 0) {
            return STATE;
        }
        tryFromNow();
        int turned = seed;
        for (int h = 0; h < n; h++) {
            turned = turned * 1103515245 + 12345;
            int got = (turned >>> 16) & 0x7fff;
            trial.paceOf[got % now.barges] = got / 8 % MOST_PACE + 1;
            trial.passHour();
        }
        return what == 0 ? trial.sumOfTalks(Talk.ENDINGS) : trial.words;
    }

    // ---- images, sheets

    public int keep(int k) {
        if (!within(k, 0, IMAGES - 1)) {
            return BAD;
        }
        int was = kept[k] ? 1 : 0;
        images[k].copy(now);
        kept[k] = true;
        return was;
    }

    public int back(int k) {
        if (!within(k, 0, IMAGES - 1)) {
            return BAD;
        }
        if (!kept[k]) {
            return STATE;
        }
        now.copy(images[k]);
        return now.hour;
    }

    public int sheet(int k, int lane, int n) {
        if (!within(k, 0, SHEETS - 1) || !within(lane, BYTES, INTS) || n > MOST_CELLS) {
            return BAD;
        }
        if (n < 0) {
            return FAULT_BASE - SIZE_FAULT;
        }
        for (int i = 0; i < n; i++) {
            cells[k][i] = 0;
        }
        laneOf[k] = lane;
        sizeOf[k] = n;
        return 1;
    }

    public int lay(int k, int i, int v) {
        if (!within(k, 0, SHEETS - 1)) {
            return BAD;
        }
        if (sizeOf[k] == NOTHING) {
            return FAULT_BASE - NULL_FAULT;
        }
        if (!within(i, 0, sizeOf[k] - 1)) {
            return FAULT_BASE - INDEX_FAULT;
        }
        cells[k][i] = lowestBits(laneOf[k], v);
        return 1;
    }

    public int read(int k, int lane, int f, int n) {
        if (!within(k, 0, SHEETS - 1) || !within(lane, BYTES, INTS) || !within(n, 0, MOST_READ)) {
            return BAD;
        }
        int had = now.talks;
        int fault = faultOfTaking(k, lane, n);
        int came = 0;
        for (int i = 0; i < n && fault == 0; i++) {
            long from = f + 3L * i;
            if (from < 0 || from + 2 >= sizeOf[k]) {
                fault = INDEX_FAULT;
            } else if (startFrom(cells[k], (int) from) < 0) {
                now.talks = had;
                return REFUSED_BASE - i;
            } else {
                came++;
            }
        }
        tornFault = fault;
        return came;
    }

    public int torn() {
        return tornFault;
    }

    public int count(int what) {
        switch (what) {
            case 0:
                return now.seen;
            case 1:
                return (kept[0] ? 1 : 0) + (kept[1] ? 1 : 0);
            case 2:
                return tape.length;
            case 3:
                return sizeOf[0] == NOTHING ? NONE : sizeOf[0];
            case 4:
                return now.pacesOfAll();
            case 5:
                return now.sumOfTalks(Talk.NEED);
            default:
                return BAD;
        }
    }

    // ---- what several calls share

    private static boolean within(int v, int least, int most) {
        return v >= least && v <= most;
    }

    private void tryFromNow() {
        trial.copy(now);
        trial.clearCounts();
    }

    /** The trial canal, gone on by the HOUR that is to come, in which nothing has been SAID yet. */
    private Canal lookAhead() {
        tryFromNow();
        trial.move();
        return trial;
    }

    private int mostEnded(int b, int which, int n, int what) {
        int most = -1;
        int bestValue = 0;
        for (int v = now.least(which); v <= now.most(which); v++) {
            tryFromNow();
            trial.put(b, which, v);
            trial.passHours(n);
            int ends = trial.sumOfTalks(Talk.ENDINGS);
            if (ends > most) {
                most = ends;
                bestValue = v;
            }
        }
        return what == 0 ? bestValue : most;
    }

    private int endingsIfSwapped(int a, int b, int n) {
        tryFromNow();
        trial.paceOf[a] = now.paceOf[b];
        trial.paceOf[b] = now.paceOf[a];
        trial.passHours(n);
        return trial.sumOfTalks(Talk.ENDINGS);
    }

    private static long partOfFraction(long above, long below, int what) {
        long divisor = greatestDivisor(above, below);
        if (divisor <= 0) {
            return BAD;
        }
        return what == 0 ? above / divisor : below / divisor;
    }

    private static long greatestDivisor(long a, long b) {
        long greater = a;
        long lesser = b;
        // Euclid's steps halve the numbers at least every second time.
        for (int i = 0; i < 200 && lesser != 0; i++) {
            long left = greater % lesser;
            greater = lesser;
            lesser = left;
        }
        return greater;
    }

    /** Bits of the KINDS or PACES of a BARGE by which all is as SEEN; what is heard by each is kept. */
    private int valuesAsSeen(int b, int which) {
        int bits = 0;
        for (int v = now.least(which); v <= now.most(which) && v < heard.length; v++) {
            tryFromNow();
            trial.put(b, which, v);
            listen(heard[v]);
            if (isAsSeen(heard[v])) {
                bits |= 1 << v;
            }
        }
        return bits;
    }

    private void listen(int[] row) {
        for (int h = 0; h <= HOURS_HEARD; h++) {
            if (h > 0) {
                trial.passHour();
            }
            for (int t = 0; t < trial.talks; t++) {
                row[h * MOST_TALKS + t] = trial.rows[t].said;
            }
        }
    }

    private boolean isAsSeen(int[] row) {
        for (int i = 0; i < now.seen; i++) {
            int t = now.seenTalk[i];
            if (t >= now.talks || row[now.seenBehind[i] * MOST_TALKS + t] != now.seenSaid[i]) {
                return false;
            }
        }
        return true;
    }

    private int leftAtWorst(int paces, int place) {
        for (int v = 0; v < tally.length; v++) {
            tally[v] = 0;
        }
        int worst = 0;
        for (int p = 1; p <= MOST_PACE; p++) {
            int said = heard[p][place];
            if ((paces >> p & 1) == 1 && within(said, 0, MOST_NEED)) {
                tally[said]++;
                worst = Math.max(worst, tally[said]);
            }
        }
        return worst;
    }

    private static int lowestBits(int lane, int v) {
        if (lane == BYTES) {
            return (byte) v;
        }
        return lane == SHORTS ? (short) v : v;
    }

    /** A SHEET is taken when its first CELL is asked for: where no TALK is read, there is nothing to refuse. */
    private int faultOfTaking(int k, int lane, int n) {
        if (n <= 0) {
            return 0;
        }
        if (sizeOf[k] == NOTHING) {
            return NULL_FAULT;
        }
        return laneOf[k] == lane ? 0 : CAST_FAULT;
    }

    private int startFrom(int[] row, int from) {
        return start(row[from], row[from + 1], row[from + 2]);
    }

    /** A TALK of two BARGES. */
    private static final class Talk {
        private static final int NEED = 2, ENDED = 5, LOST = 6, ENDINGS = 9, LOSSES = 10;

        private int first;
        private int second;
        private int needed;
        private int said;
        private int since;
        private boolean nod;
        private int ended;
        private int lost;
        /** Since counting began, beyond 999 too. */
        private int endings;
        private int losses;

        private void begin(int a, int b, int need) {
            first = a;
            second = b;
            needed = need;
            ended = 0;
            lost = 0;
            endings = 0;
            losses = 0;
            leaveOff();
        }

        private void copy(Talk other) {
            first = other.first;
            second = other.second;
            needed = other.needed;
            said = other.said;
            since = other.since;
            nod = other.nod;
            ended = other.ended;
            lost = other.lost;
            endings = other.endings;
            losses = other.losses;
        }

        private int tell(int what) {
            switch (what) {
                case 0:
                    return first;
                case 1:
                    return second;
                case NEED:
                    return needed;
                case 3:
                    return said;
                case 4:
                    return since;
                case ENDED:
                    return ended;
                case LOST:
                    return lost;
                case 7:
                    return turn();
                case 8:
                    return nod ? 1 : 0;
                case ENDINGS:
                    return endings;
                case LOSSES:
                    return losses;
                default:
                    return BAD;
            }
        }

        private int turn() {
            return said % 2 == 0 ? first : second;
        }

        /** How many words a BARGE of a KIND that MEETS so many SAYS now; a deaf one nods, or has nodded. */
        private int wordsOf(int kind, int met) {
            if (kind == DEAF) {
                nod = !nod;
                if (nod) {
                    return 0;
                }
            }
            if ((kind == SHY || kind == DEAF) && met > 1) {
                return 0;
            }
            return kind == QUICK ? 2 : 1;
        }

        private int passHour(boolean meet, int kind, int met, int memoryHours) {
            int words = meet ? wordsOf(kind, met) : 0;
            if (words > 0) {
                goOn(words);
            } else {
                fallSilent(memoryHours);
            }
            return words;
        }

        private void goOn(int words) {
            said = Math.min(needed, said + words);
            since = 0;
            if (said == needed) {
                ended = Math.min(MOST_COUNTED, ended + 1);
                endings++;
                leaveOff();
            }
        }

        private void fallSilent(int memoryHours) {
            if (said <= 0) {
                return;
            }
            since++;
            if (since > memoryHours) {
                lost = Math.min(MOST_COUNTED, lost + 1);
                losses++;
                leaveOff();
            }
        }

        private void leaveOff() {
            said = 0;
            since = 0;
            nod = false;
        }
    }

    /** All that an IMAGE keeps: the cut, its BARGES and TALKS, and what was SEEN. */
    private static final class Canal {
        private static final int KIND = 0, PHASE = 1, PACE = 2;

        private int length = FIRST_CUT;
        private int memoryHours = FIRST_MEMORY;
        private int hour;
        private int barges;
        private final int[] kindOf = new int[MOST_BARGES];
        private final int[] phaseOf = new int[MOST_BARGES];
        private final int[] paceOf = new int[MOST_BARGES];
        private int talks;
        private final Talk[] rows = new Talk[MOST_TALKS];
        private int seen;
        private final int[] seenBehind = new int[MOST_SEEN];
        private final int[] seenTalk = new int[MOST_SEEN];
        private final int[] seenSaid = new int[MOST_SEEN];

        /** Of the latest move: where each was ahead of it, is then, how many it MEETS, who MEETS whom. */
        private final int[] placeAhead = new int[MOST_BARGES];
        private final int[] placeThen = new int[MOST_BARGES];
        private final int[] met = new int[MOST_BARGES];
        private final boolean[] meets = new boolean[MOST_BARGES * MOST_BARGES];
        /** Since counting began. */
        private int words;
        private int meetings;

        private Canal() {
            for (int t = 0; t < MOST_TALKS; t++) {
                rows[t] = new Talk();
            }
        }

        private void empty() {
            length = FIRST_CUT;
            memoryHours = FIRST_MEMORY;
            hour = 0;
            barges = 0;
            talks = 0;
            seen = 0;
        }

        private void copy(Canal other) {
            length = other.length;
            memoryHours = other.memoryHours;
            hour = other.hour;
            barges = other.barges;
            for (int b = 0; b < barges; b++) {
                kindOf[b] = other.kindOf[b];
                phaseOf[b] = other.phaseOf[b];
                paceOf[b] = other.paceOf[b];
            }
            talks = other.talks;
            for (int t = 0; t < talks; t++) {
                rows[t].copy(other.rows[t]);
            }
            seen = other.seen;
            for (int i = 0; i < seen; i++) {
                seenBehind[i] = other.seenBehind[i];
                seenTalk[i] = other.seenTalk[i];
                seenSaid[i] = other.seenSaid[i];
            }
        }

        private boolean hasBarge(int b) {
            return b >= 0 && b < barges;
        }

        private boolean hasTalk(int t) {
            return t >= 0 && t < talks;
        }

        private int wayRound() {
            return 2 * length;
        }

        /** What a way of any length leaves by the way round. */
        private int onWayRound(int way) {
            int round = wayRound();
            return round > 0 ? way % round : 0;
        }

        private int phaseBehind(int b, int hours) {
            return onWayRound(phaseOf[b] + hours * paceOf[b]);
        }

        private int placeOf(int phase) {
            return phase > length ? wayRound() - phase : phase;
        }

        private int least(int which) {
            return which == PACE ? 1 : 0;
        }

        private int most(int which) {
            if (which == KIND) {
                return KINDS - 1;
            }
            return which == PHASE ? wayRound() - 1 : MOST_PACE;
        }

        private boolean mayBe(int which, int v) {
            return which >= KIND && which <= PACE && v >= least(which) && v <= most(which);
        }

        private int put(int b, int which, int v) {
            int[] row = which == KIND ? kindOf : which == PHASE ? phaseOf : paceOf;
            int had = row[b];
            row[b] = v;
            return had;
        }

        private void addBarge(int kind, int phase, int pace) {
            kindOf[barges] = kind;
            phaseOf[barges] = phase;
            paceOf[barges] = pace;
            barges++;
        }

        private void addTalk(int a, int b, int need) {
            rows[talks].begin(a, b, need);
            talks++;
        }

        private void addSeen(int behind, int t, int said) {
            seenBehind[seen] = behind;
            seenTalk[seen] = t;
            seenSaid[seen] = said;
            seen++;
        }

        private void bringPhasesHome() {
            for (int b = 0; b < barges; b++) {
                phaseOf[b] = onWayRound(phaseOf[b]);
            }
        }

        private void clearCounts() {
            words = 0;
            meetings = 0;
            for (int t = 0; t < talks; t++) {
                rows[t].endings = 0;
                rows[t].losses = 0;
            }
        }

        private void passHours(int n) {
            for (int h = 0; h < n; h++) {
                passHour();
            }
        }

        private void passHour() {
            move();
            for (int t = 0; t < talks; t++) {
                Talk row = rows[t];
                int who = row.turn();
                words += row.passHour(doMeet(row.first, row.second), kindOf[who], met[who], memoryHours);
            }
            hour++;
        }

        private boolean doMeet(int a, int b) {
            return meets[a * MOST_BARGES + b];
        }

        private void move() {
            for (int b = 0; b < barges; b++) {
                placeAhead[b] = placeOf(phaseOf[b]);
                phaseOf[b] = onWayRound(phaseOf[b] + paceOf[b]);
                placeThen[b] = placeOf(phaseOf[b]);
                met[b] = 0;
            }
            for (int a = 0; a < barges; a++) {
                for (int b = a + 1; b < barges; b++) {
                    noteWhetherMet(a, b);
                }
            }
        }

        private void noteWhetherMet(int a, int b) {
            int ahead = placeAhead[a] - placeAhead[b];
            int then = placeThen[a] - placeThen[b];
            boolean meet = then == 0 || ahead < 0 && then > 0 || ahead > 0 && then < 0;
            meets[a * MOST_BARGES + b] = meet;
            meets[b * MOST_BARGES + a] = meet;
            if (meet) {
                met[a]++;
                met[b]++;
                meetings++;
            }
        }

        private boolean allBackBehind(int n) {
            for (int b = 0; b < barges; b++) {
                if (phaseBehind(b, n) != phaseOf[b]) {
                    return false;
                }
            }
            return true;
        }

        private int longestSilence() {
            int longest = 0;
            for (int t = 0; t < talks; t++) {
                longest = Math.max(longest, rows[t].since);
            }
            return longest;
        }

        private int sumOfTalks(int what) {
            int sum = 0;
            for (int t = 0; t < talks; t++) {
                sum += rows[t].tell(what);
            }
            return sum;
        }

        private int pacesOfAll() {
            int sum = 0;
            for (int b = 0; b < barges; b++) {
                sum += paceOf[b];
            }
            return sum;
        }
    }

    /** One TALK in fog: all go as ever, so who would MEET is known ahead; ways are counted in tenths each HOUR. */
    private static final class Fog {
        private final boolean[] meet = new boolean[HOURS_OF_FOG];
        private final int[] metByFirst = new int[HOURS_OF_FOG];
        private final int[] metBySecond = new int[HOURS_OF_FOG];
        /** The TALK as it stands behind so many HOURS on the way that is being gone. */
        private final Talk[] behind = new Talk[HOURS_OF_FOG + 1];
        private int span;
        private int odds;
        private int kindOfFirst;
        private int kindOfSecond;
        private int memoryHours;

        private Fog() {
            for (int h = 0; h <= HOURS_OF_FOG; h++) {
                behind[h] = new Talk();
            }
        }

        private static long allWays(int n) {
            long ways = 1;
            for (int h = 0; h < n; h++) {
                ways *= 10;
            }
            return ways;
        }

        private void watch(Canal canal, int t, int n, int v) {
            Talk row = canal.rows[t];
            behind[0].copy(row);
            kindOfFirst = canal.kindOf[row.first];
            kindOfSecond = canal.kindOf[row.second];
            memoryHours = canal.memoryHours;
            span = Math.min(n, HOURS_OF_FOG);
            odds = v;
            for (int h = 0; h < span; h++) {
                canal.move();
                meet[h] = canal.doMeet(row.first, row.second);
                metByFirst[h] = canal.met[row.first];
                metBySecond[h] = canal.met[row.second];
            }
        }

        /** Tenths by which they do not MEET in an HOUR, be it by the fog or by their paces. */
        private int tenthsApart(int h) {
            return meet[h] ? odds : 10;
        }

        private int pass(int h, boolean together) {
            Talk next = behind[h + 1];
            next.copy(behind[h]);
            boolean firstSpeaks = next.turn() == next.first;
            int kind = firstSpeaks ? kindOfFirst : kindOfSecond;
            int met = firstSpeaks ? metByFirst[h] : metBySecond[h];
            return next.passHour(together, kind, met, memoryHours);
        }

        private long waysWithoutEnd(int h) {
            if (h >= span) {
                return 1;
            }
            int apart = tenthsApart(h);
            long ways = 0;
            if (apart > 0) {
                pass(h, false);
                ways += apart * waysWithoutEnd(h + 1);
            }
            if (apart < 10) {
                pass(h, true);
                if (behind[h + 1].endings == behind[h].endings) {
                    ways += (10 - apart) * waysWithoutEnd(h + 1);
                }
            }
            return ways;
        }

        private long wordsInAllWays(int h) {
            if (h >= span) {
                return 0;
            }
            int apart = tenthsApart(h);
            long words = 0;
            if (apart > 0) {
                pass(h, false);
                words += apart * wordsInAllWays(h + 1);
            }
            if (apart < 10) {
                long said = pass(h, true) * allWays(span - h - 1);
                words += (10 - apart) * (said + wordsInAllWays(h + 1));
            }
            return words;
        }
    }

    /** THE TAPE, and the canal that its latest text told, as far as it was read. */
    private static final class Tape {
        private static final int AT_END = 0, NAME = 1, NUMBER = 2, STOP = 3, UNKNOWN = 4;
        private static final int NO_LINE = -1, CUT_LINE = 4, MEMORY_LINE = 5, TALK_LINE = 6;
        private static final int NO_TOKEN = 1, MISPLACED = 2, OUT_OF_BOUNDS = 3, TWICE = 4, TOO_MANY = 5, NO_BARGE = 6;

        private final byte[] bytes = new byte[TAPE_BYTES];
        private int length;
        private final Canal told = new Canal();
        private boolean cutTold;
        private boolean memoryTold;
        private int token;
        private int tokenPlace;
        private int tokenEnd;
        private int value;
        private int fault;
        private int faultPlace;

        /** How many lines there are; what it answers behind a FAULT is of no use. */
        private int readAll() {
            told.empty();
            cutTold = false;
            memoryTold = false;
            tokenEnd = 0;
            fault = 0;
            faultPlace = 0;
            int lines = 0;
            // No line is empty, so there are fewer of them than bytes.
            while (lines <= length && nextToken() && token != AT_END && readLine()) {
                lines++;
            }
            if (fault == 0) {
                finish();
            }
            return lines;
        }

        private boolean readLine() {
            int line = token == NAME ? lineNamed() : NO_LINE;
            if (line == NO_LINE) {
                return fail(MISPLACED);
            }
            boolean whole;
            if (line == CUT_LINE) {
                whole = readCut();
            } else if (line == MEMORY_LINE) {
                whole = readMemory();
            } else if (line == TALK_LINE) {
                whole = readTalk();
            } else {
                whole = readBarge(line);
            }
            return whole && readStop();
        }

        /** The KIND, where the line tells of a BARGE. */
        private int lineNamed() {
            if (isNamed("plain")) {
                return PLAIN;
            }
            if (isNamed("quick")) {
                return QUICK;
            }
            if (isNamed("shy")) {
                return SHY;
            }
            if (isNamed("deaf")) {
                return DEAF;
            }
            if (isNamed("cut")) {
                return CUT_LINE;
            }
            if (isNamed("memory")) {
                return MEMORY_LINE;
            }
            return isNamed("talk") ? TALK_LINE : NO_LINE;
        }

        private boolean isNamed(String name) {
            if (tokenEnd - tokenPlace != name.length()) {
                return false;
            }
            for (int i = 0; i < name.length(); i++) {
                if (bytes[tokenPlace + i] != name.charAt(i)) {
                    return false;
                }
            }
            return true;
        }

        private boolean readCut() {
            if (cutTold) {
                return fail(TWICE);
            }
            cutTold = true;
            if (!readNumber(LEAST_CUT, MOST_CUT)) {
                return false;
            }
            told.length = value;
            return true;
        }

        private boolean readMemory() {
            if (memoryTold) {
                return fail(TWICE);
            }
            memoryTold = true;
            if (!readNumber(1, MOST_MEMORY)) {
                return false;
            }
            told.memoryHours = value;
            return true;
        }

        private boolean readBarge(int kind) {
            if (told.barges >= MOST_BARGES) {
                return fail(TOO_MANY);
            }
            if (!readNumber(0, MOST_TOLD_PHASE)) {
                return false;
            }
            int phase = value;
            if (!readNumber(1, MOST_PACE)) {
                return false;
            }
            told.addBarge(kind, phase, value);
            return true;
        }

        private boolean readTalk() {
            if (told.talks >= MOST_TALKS) {
                return fail(TOO_MANY);
            }
            if (!readNumber(0, MOST_BARGES - 1)) {
                return false;
            }
            int first = value;
            if (!readNumber(0, MOST_BARGES - 1)) {
                return false;
            }
            int second = value;
            if (second == first) {
                return fail(TWICE);
            }
            if (!readNumber(1, MOST_NEED)) {
                return false;
            }
            told.addTalk(first, second, value);
            return true;
        }

        private boolean readNumber(int least, int most) {
            if (!nextToken()) {
                return false;
            }
            if (token != NUMBER) {
                return fail(MISPLACED);
            }
            value = 0;
            for (int i = tokenPlace; i < tokenEnd; i++) {
                value = 10 * value + bytes[i] - '0';
            }
            return value >= least && value <= most || fail(OUT_OF_BOUNDS);
        }

        private boolean readStop() {
            if (!nextToken()) {
                return false;
            }
            return token == STOP || fail(MISPLACED);
        }

        /** The end has been read here, so a FAULT is at the length. */
        private void finish() {
            for (int t = 0; t < told.talks; t++) {
                Talk row = told.rows[t];
                if (!told.hasBarge(row.first) || !told.hasBarge(row.second)) {
                    fail(NO_BARGE);
                    return;
                }
            }
            told.bringPhasesHome();
        }

        /** The TOKEN that was read last is at fault. */
        private boolean fail(int which) {
            fault = which;
            faultPlace = tokenPlace;
            return false;
        }

        private boolean nextToken() {
            int place = tokenEnd;
            while (place < length && bytes[place] == ' ') {
                place++;
            }
            tokenPlace = place;
            token = place < length ? tokenBegunBy(bytes[place]) : AT_END;
            while (place < length && tokenBegunBy(bytes[place]) == token) {
                place++;
                if (token == STOP) {
                    break;
                }
            }
            tokenEnd = place;
            boolean tooLong = token == NUMBER && tokenEnd - tokenPlace > 2;
            return token != UNKNOWN && !tooLong || fail(NO_TOKEN);
        }

        private static int tokenBegunBy(byte c) {
            if (c >= 'a' && c <= 'z') {
                return NAME;
            }
            if (c >= '0' && c <= '9') {
                return NUMBER;
            }
            return c == ';' ? STOP : UNKNOWN;
        }
    }
}
