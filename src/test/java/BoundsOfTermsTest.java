/** Boundaries of 'Terms': the cut, barges, talks, whose turn it is, what each kind says, and an hour. */
public final class BoundsOfTermsTest {
    private static final int BAD = -1, FULL = -3;
    private static final String[] KINDS = {"plain", "quick", "shy", "deaf"};

    public static void main(String[] args) throws ReflectiveOperationException {
        Bounds.runAll(BoundsOfTermsTest.class);
    }

    private static void due(String what, long got, long want) {
        Bounds.due(what, got, want);
    }

    /** Numbers of two figures told in a text at the end of these words: those in the bounds are taken. */
    private static void told(String words, int least, int most, int what) {
        for (int v = 0; v <= 99; v++) {
            BargeTalks x = new BargeTalks();
            Checks.feed(x, words + v + ";");
            boolean in = v >= least && v <= most;
            due(words + v, x.text(), in ? 1 : -10 - words.length());
            due(words + v + ": fault", x.fault(), in ? 0 : 3);
            if (in) {
                due(words + v + ": told", what < 3 ? x.barge(0, what) : x.rule(what), v);
            }
        }
    }

    static void terms_cut_is2To20() {
        told("cut ", 2, 20, 3);
    }

    static void terms_cut_is10AtFirst_alsoWhereATextTellsNone() {
        due("new", new BargeTalks().rule(3), 10);
        BargeTalks x = Checks.told("cut 2;");
        Checks.feed(x, "plain 39 1;");
        x.text();
        due("not told", x.rule(3), 10);
        due("phase by it", x.barge(0, 1), 19);
    }

    static void terms_memory_is1To99() {
        told("memory ", 1, 99, 4);
    }

    static void terms_memory_is40AtFirst_alsoWhereATextTellsNone() {
        due("new", new BargeTalks().rule(4), 40);
        BargeTalks x = Checks.told("memory 2;");
        Checks.feed(x, "plain 39 1;");
        x.text();
        due("not told", x.rule(4), 40);
    }

    static void terms_pace_is1To9() {
        told("plain 0 ", 1, 9, 2);
    }

    static void terms_places_are0ToCut_andBackBeyondIt() {
        for (int cut = 2; cut <= 20; cut++) {
            BargeTalks x = Checks.told("cut " + cut + ";plain 0 1;");
            for (int phase = 0; phase < 2 * cut; phase++) {
                due("phase " + phase + " is taken", x.alter(0, 1, phase) >= 0 ? 0 : 1, 0);
                due("cut " + cut + ", phase " + phase, x.barge(0, 3), Math.min(phase, 2 * cut - phase));
            }
            due("twice the cut is no phase", x.alter(0, 1, 2 * cut), BAD);
        }
    }

    static void terms_phase_ofCut2_is0To3() {
        int[] places = {0, 1, 2, 1};
        for (int phase = 0; phase < 4; phase++) {
            due("place of " + phase, Checks.told("cut 2;plain " + phase + " 1;").barge(0, 3), places[phase]);
        }
    }

    static void terms_phase_isWhatItLeavesByTwiceCut() {
        for (int cut = 2; cut <= 20; cut++) {
            for (int phase = 0; phase <= 39; phase++) {
                due("cut behind it", Checks.told("shy " + phase + " 1;cut " + cut + ";").barge(0, 1), phase % (2 * cut));
                due("cut ahead of it", Checks.told("cut " + cut + ";shy " + phase + " 1;").barge(0, 1), phase % (2 * cut));
            }
        }
    }

    static void terms_barges_are5AtMost_byOrder() {
        BargeTalks x = Worlds.fiveBarges();
        int[][] due = {{0, 0, 1}, {1, 3, 2}, {2, 7, 3}, {3, 9, 9}, {0, 19, 4}};
        due("how many", x.rule(0), 5);
        for (int b = 0; b < 5; b++) {
            for (int w = 0; w < 3; w++) {
                due("barge " + b + " " + w, x.barge(b, w), due[b][w]);
            }
        }
        due("no sixth", x.barge(5, 0), BAD);
    }

    static void terms_kinds_arePlainQuickShyDeaf_byOrder() {
        for (int k = 0; k < 4; k++) {
            due(KINDS[k], Checks.told(KINDS[k] + " 0 1;").barge(0, 0), k);
        }
    }

    static void terms_talks_are6AtMost_byOrder() {
        BargeTalks x = Worlds.sixTalks();
        due("how many", x.rule(1), 6);
        for (int t = 0; t < 6; t++) {
            due("first of " + t, x.talk(t, 0), t % 5);
            due("second of " + t, x.talk(t, 1), (t + 1) % 5);
            due("need of " + t, x.talk(t, 2), 20 - t);
        }
        due("no seventh", x.talk(6, 0), BAD);
        due("none more", x.start(0, 1, 1), FULL);
    }

    static void terms_talk_atFirst_nothingSaid_noNod_noneEndedOrLost() {
        BargeTalks x = Checks.told("deaf 0 1;shy 5 2;talk 1 0 20;");
        int[] due = {1, 0, 20, 0, 0, 0, 0, 1, 0};
        for (int w = 0; w <= 8; w++) {
            due("what " + w, x.talk(0, w), due[w]);
        }
    }

    static void terms_need_is1To20() {
        for (int need = 0; need <= 99; need++) {
            BargeTalks x = new BargeTalks();
            Checks.feed(x, "plain 0 1;shy 0 1;talk 0 1 " + need + ";");
            boolean in = need >= 1 && need <= 20;
            due("need " + need, x.text(), in ? 3 : -10 - 27);
            due("need told", x.talk(0, 2), in ? need : BAD);
        }
    }

    static void terms_turn_isOfTheFirstOneIfSaidIsEven() {
        BargeTalks x = Checks.told("plain 0 1;plain 5 1;plain 9 1;talk 2 1 20;");
        for (int said = 0; said < 20; said++) {
            due("said", x.talk(0, 3), said);
            due("turn at " + said, x.talk(0, 7), said % 2 == 0 ? 2 : 1);
            x.say(0);
        }
        due("ended: of the first one again", x.talk(0, 7), 2);
    }

    private static void words(String barges, int... said) {
        BargeTalks x = Checks.told("cut 2;" + barges + "talk 0 1 20;");
        for (int h = 0; h < said.length; h++) {
            due("said behind " + h + " of " + barges, x.talk(0, 3), said[h]);
            x.hours(1);
        }
    }

    static void terms_says_plain1Word() {
        words("plain 0 2;plain 0 2;", 0, 1, 2, 3);
        words("plain 0 2;plain 0 2;plain 0 2;", 0, 1, 2, 3);
    }

    static void terms_says_quickTwiceAsMany() {
        words("quick 0 2;plain 0 2;", 0, 2, 4, 6);
        words("plain 0 2;quick 0 2;", 0, 1, 3, 5);
        words("quick 0 2;plain 0 2;plain 0 2;", 0, 2, 4, 6);
    }

    static void terms_says_shy1WordIfItMeets1() {
        words("shy 0 2;shy 0 2;", 0, 1, 2, 3);
        words("shy 0 2;shy 0 2;plain 2 4;", 0, 0, 1, 1, 2, 2);
    }

    static void terms_says_shyNoneIfItMeets2() {
        words("shy 0 2;plain 0 2;plain 0 2;", 0, 0, 0, 0);
        words("plain 0 2;shy 0 2;plain 0 2;", 0, 1, 1, 1);
    }

    static void terms_says_shyNoneIfItMeets4() {
        words("shy 0 2;plain 0 2;plain 0 2;plain 0 2;plain 0 2;", 0, 0, 0);
    }

    static void terms_says_shyMinds_whomItMeets_notWhomTheOtherOneMeets() {
        // The plain one comes from 2 to 8, where the shy one comes too, and passes the third one, that goes from 3 to 4.
        BargeTalks x = Checks.told("cut 20;shy 4 4;plain 2 6;plain 3 1;talk 0 1 20;");
        due("the shy one meets", x.barge(0, 4), 1);
        due("the plain one meets", x.barge(1, 4), 2);
        due("it says", x.runs(1, 2), 1);
    }

    private static void deaf(String barges, int[] said, int[] nods) {
        BargeTalks x = Checks.told("cut 2;" + barges + "talk 0 1 20;");
        for (int h = 0; h < said.length; h++) {
            due("said behind " + h, x.talk(0, 3), said[h]);
            due("nod behind " + h, x.talk(0, 8), nods[h]);
            x.hours(1);
        }
    }

    static void terms_says_deafNoneWithoutNod_thenANodIsThere_thenNoneAgain() {
        deaf("deaf 0 2;deaf 0 2;", new int[] {0, 0, 1, 1, 2}, new int[] {0, 1, 0, 1, 0});
    }

    static void terms_says_deafAmong2_nodsAndDropsItsNod_butSaysNone() {
        deaf("deaf 0 2;plain 0 2;plain 0 2;", new int[] {0, 0, 0, 0, 0}, new int[] {0, 1, 0, 1, 0});
    }

    static void terms_says_deafAmong2EverySecondHour() {
        // The third one stands at 2: it is met each first hour of two, in which the nod comes.
        deaf("deaf 0 2;plain 0 2;plain 2 4;", new int[] {0, 0, 1, 2, 2, 2, 2}, new int[] {0, 1, 0, 0, 1, 0, 1});
    }

    static void terms_says_noNodComesWhereTheyDoNotMeet() {
        BargeTalks x = Checks.told("cut 4;deaf 0 8;deaf 4 8;talk 0 1 20;");
        x.hours(9);
        due("nod", x.talk(0, 8), 0);
    }

    static void terms_hour_phaseGoesRoundAtTwiceCut() {
        int[][] due = {{2, 3, 1, 0}, {2, 3, 9, 0}, {2, 2, 1, 3}, {2, 0, 4, 0}, {2, 0, 9, 1}, {10, 19, 1, 0}, {10, 18, 1, 19},
            {20, 39, 1, 0}, {20, 31, 9, 0}, {20, 30, 9, 39}, {20, 39, 9, 8}, {4, 7, 8, 7}};
        for (int[] d : due) {
            BargeTalks x = Checks.told("cut " + d[0] + ";plain " + d[1] + " " + d[2] + ";");
            x.hours(1);
            due("cut " + d[0] + ", " + d[1] + " by " + d[2], x.barge(0, 1), d[3]);
        }
    }

    private static void meet(String two, int pairs) {
        BargeTalks x = Checks.told(two + "talk 0 1 20;");
        due(two, x.rule(7), pairs);
        due(two + " the other way", x.barge(1, 4), pairs);
        due(two + " words", x.runs(1, 2), pairs);
    }

    static void terms_meet_atOnePlaceThen() {
        meet("cut 9;plain 0 3;plain 2 1;", 1);
        meet("cut 9;plain 2 1;plain 0 3;", 1);
        meet("cut 9;plain 0 3;plain 6 3;", 0);
        meet("cut 9;plain 4 3;plain 10 1;", 1);
    }

    static void terms_meet_atTheEnds() {
        meet("cut 9;plain 17 1;plain 16 2;", 1);
        meet("cut 9;plain 8 1;plain 7 2;", 1);
        meet("cut 9;plain 8 1;plain 9 1;", 1);
    }

    static void terms_meet_whoWasAtTheLesserPlaceIsAtTheGreaterOne() {
        meet("cut 9;plain 0 4;plain 2 1;", 1);
        meet("cut 9;plain 2 1;plain 0 4;", 1);
        meet("cut 9;plain 3 2;plain 14 2;", 1);
        meet("cut 9;plain 14 2;plain 3 2;", 1);
        meet("cut 9;plain 3 1;plain 13 1;", 1);
    }

    static void terms_meet_notIfOneIsBehindTheOtherStill() {
        meet("cut 9;plain 0 2;plain 2 1;", 0);
        meet("cut 9;plain 2 1;plain 0 2;", 0);
        meet("cut 9;plain 3 1;plain 12 1;", 0);
    }

    static void terms_meet_notIfAtOnePlaceAheadAndApartThen() {
        meet("cut 9;plain 3 1;plain 3 2;", 0);
        meet("cut 9;plain 3 2;plain 3 1;", 0);
        meet("cut 9;plain 3 1;plain 15 1;", 0);
        meet("cut 9;plain 0 1;plain 0 2;", 0);
    }

    static void terms_meet_notIfOneTurnsAtTheEndWhereTheOtherStands() {
        meet("cut 4;plain 3 2;plain 4 8;", 0);
        meet("cut 4;plain 7 2;plain 0 8;", 0);
    }

    static void terms_hour_saidIsNeedAtMost_thenItEnds() {
        BargeTalks x = Checks.told("cut 2;quick 0 2;quick 0 2;talk 0 1 3;talk 0 1 1;talk 0 1 2;");
        due("ends of the first hour: needs 1, 2", x.hours(1), 2);
        due("said of need 3", x.talk(0, 3), 2);
        due("ends of the second hour: all", x.hours(1), 3);
        due("said of need 3", x.talk(0, 3), 0);
        due("ended", x.talk(0, 5), 1);
        due("need 1 ended twice", x.talk(1, 5), 2);
        due("need 2 ended twice", x.talk(2, 5), 2);
    }

    static void terms_hour_endsAtNeedNotAhead() {
        BargeTalks x = Checks.told(Worlds.TOGETHER + "talk 0 1 20;");
        due("19 hours", x.hours(19), 0);
        due("said", x.talk(0, 3), 19);
        due("the 20th", x.hours(1), 1);
        due("said then", x.talk(0, 3), 0);
        due("not lost", x.talk(0, 6), 0);
    }

    static void terms_hour_sinceStays0WhereNothingIsSaid() {
        BargeTalks x = Checks.told("memory 1;" + Worlds.APART + "talk 0 1 20;");
        x.hours(100);
        due("since", x.talk(0, 4), 0);
        due("lost", x.talk(0, 6), 0);
    }

    private static void lostBehind(int memory) {
        BargeTalks x = Checks.told("memory " + memory + ";" + Worlds.APART + "talk 0 1 20;");
        x.say(0);
        x.hours(memory);
        due("since is as much as memory", x.talk(0, 4), memory);
        due("not lost", x.talk(0, 6), 0);
        due("said", x.talk(0, 3), 1);
        due("an hour more, none ends", x.hours(1), 0);
        int[] due = {0, 0, 0, 1, 0, 0};
        for (int w = 3; w <= 8; w++) {
            due("lost: talk " + w, x.talk(0, w), due[w - 3]);
        }
        x.hours(1);
        due("lost once", x.talk(0, 6), 1);
    }

    static void terms_hour_lostWhereSinceIsMoreThanMemory1() {
        lostBehind(1);
    }

    static void terms_hour_lostWhereSinceIsMoreThanMemory40() {
        lostBehind(40);
    }

    static void terms_hour_lostWhereSinceIsMoreThanMemory99() {
        lostBehind(99);
    }

    static void terms_hour_lostTakesTheNodAlong() {
        BargeTalks x = Checks.told("memory 1;cut 4;plain 0 8;deaf 4 8;talk 0 1 20;");
        x.say(0);
        x.say(0);
        x.hours(1);
        due("nod", x.talk(0, 8), 1);
        x.hours(1);
        due("lost", x.talk(0, 6), 1);
        due("no nod", x.talk(0, 8), 0);
    }

    static void terms_hour_endTakesTheNodAlong() {
        BargeTalks x = Checks.told("cut 2;deaf 0 2;plain 0 2;talk 0 1 1;");
        x.hours(1);
        due("nod", x.talk(0, 8), 1);
        x.alter(0, 0, 0);
        due("ends by a plain one's word", x.hours(1), 1);
        due("no nod", x.talk(0, 8), 0);
    }

    static void terms_hour_aNodIsNoWord_sinceIs1More() {
        BargeTalks x = Checks.told("memory 1;cut 2;plain 0 2;deaf 0 2;talk 0 1 20;");
        x.hours(2);
        due("since", x.talk(0, 4), 1);
        due("nod", x.talk(0, 8), 1);
        x.hours(1);
        due("since is 0 by a word", x.talk(0, 4), 0);
        due("said", x.talk(0, 3), 2);
    }

    static void terms_hour_aWordInTheLastHourOfMemoryKeepsTheTalk() {
        // They pass each other every third hour, silent for two between.
        BargeTalks x = Checks.told("cut 3;memory 2;plain 0 1;plain 3 1;talk 0 1 20;");
        x.hours(4);
        due("since", x.talk(0, 4), 2);
        x.hours(1);
        due("since then", x.talk(0, 4), 0);
        due("said then", x.talk(0, 3), 2);
        due("none lost in 100", x.runs(100, 1), 0);
        x.memory(1);
        due("33 lost in 100, one by one", x.runs(99, 1), 33);
    }

    static void terms_ended_is999AtMost() {
        BargeTalks x = Checks.told(Worlds.TOGETHER + "talk 0 1 1;");
        for (int i = 0; i < 9; i++) {
            x.hours(100);
        }
        x.hours(98);
        due("998", x.talk(0, 5), 998);
        due("the 999th", x.hours(1), 1);
        due("999", x.talk(0, 5), 999);
        due("one more ends", x.hours(1), 1);
        due("999 still", x.talk(0, 5), 999);
        due("by hand", x.say(0), 1);
        due("999 by hand", x.talk(0, 5), 999);
        due("nothing said", x.talk(0, 3), 0);
    }

    static void terms_lost_is999AtMost() {
        BargeTalks x = Checks.told("cut 3;memory 1;plain 0 1;plain 3 1;talk 0 1 20;");
        x.hours(98);
        for (int i = 0; i < 29; i++) {
            x.hours(100);
        }
        due("behind 2998 hours", x.talk(0, 6), 999);
        x.hours(3);
        due("999 still", x.talk(0, 6), 999);
        due("one more is lost", x.runs(3, 1), 1);
        due("nothing said", x.talk(0, 3), 0);
    }

    static void terms_hour_isOneMore_from0() {
        BargeTalks x = new BargeTalks();
        due("at first", x.rule(2), 0);
        x.hours(1);
        due("behind one", x.rule(2), 1);
        x.text();
        due("a text that is taken begins anew", x.rule(2), 0);
    }

    static void terms_fractions_areInLowestTerms_0Is0By1() {
        BargeTalks x = Checks.told(Worlds.TOGETHER + "talk 0 1 1;");
        for (int v = 0; v <= 10; v++) {
            int common = v == 0 ? 10 : v == 5 ? 5 : v == 10 ? 10 : v % 2 == 0 ? 2 : 1;
            due("luck above by " + v, x.luck(v, 0, 1, 0), v / common);
            due("luck below by " + v, x.luck(v, 0, 1, 1), 10 / common);
            due("mean above by " + v, x.mean(v, 1, 0), (10 - v) / common);
            due("mean below by " + v, x.mean(v, 1, 1), 10 / common);
        }
    }
}
