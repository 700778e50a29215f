/** Boundaries of promises 20 to 25: what is best, and fog. */
public final class BoundsOfBestTest {
    private static final int NONE = -4;
    private static final long ALL_WAYS = 100000000L;

    public static void main(String[] args) throws ReflectiveOperationException {
        Bounds.runAll(BoundsOfBestTest.class, 20, 25);
    }

    private static void due(String what, long got, long want) {
        Bounds.due(what, got, want);
    }

    // ---- promise 20

    static void promise20_best_takesABargeThatThereIs() {
        Bounds.only(0, 2, Worlds::rich, (x, v) -> x.best(v, 1, 5, 0));
        Bounds.only(0, 4, Worlds::full, (x, v) -> x.best(v, 2, 5, 0));
        Bounds.bad("none there", BargeTalks::new, x -> x.best(0, 1, 0, 0));
    }

    static void promise20_best_takesWhich1And2_notTheKind() {
        Bounds.only(1, 2, Worlds::rich, (x, v) -> x.best(0, v, 5, 0));
    }

    static void promise20_best_takes0To100() {
        Bounds.only(0, 100, Worlds::rich, (x, v) -> x.best(0, 1, v, 1));
    }

    static void promise20_best_takesWhat0And1() {
        Bounds.only(0, 1, Worlds::rich, (x, v) -> x.best(0, 2, 5, v));
    }

    static void promise20_best_changesNothing() {
        for (int i = 0; i < 4; i++) {
            int which = 1 + i / 2;
            int what = i % 2;
            int is = Worlds.rich().best(1, which, 100, what);
            Bounds.changesNothing("which " + which + " what " + what, Worlds::rich, x -> x.best(1, which, 100, what), is);
        }
    }

    static void promise20_best_in0HoursNoneEnd_theLeast() {
        BargeTalks x = Worlds.rich();
        due("phase", x.best(1, 1, 0, 0), 0);
        due("pace", x.best(1, 2, 0, 0), 1);
        due("by phase", x.best(1, 1, 0, 1), 0);
        due("by pace", x.best(1, 2, 0, 1), 0);
    }

    static void promise20_best_withoutTalksNoneEnd_theLeast() {
        BargeTalks x = Worlds.fiveBarges();
        due("phase", x.best(4, 1, 100, 0), 0);
        due("pace", x.best(4, 2, 100, 0), 1);
        due("how many", x.best(4, 2, 100, 1), 0);
    }

    static void promise20_best_phase0_theLeastThereIs() {
        // Who comes from 0 to 1 meets who stands there; so does who comes from 2: the least of several.
        BargeTalks x = Checks.told("cut 2;plain 1 4;plain 3 1;talk 0 1 1;");
        due("phase", x.best(1, 1, 1, 0), 0);
        due("how many", x.best(1, 1, 1, 1), 1);
    }

    static void promise20_best_phaseTwiceCutLess1_theMostThereIs() {
        for (int cut = 2; cut <= 20; cut++) {
            int last = 2 * cut - 1;
            BargeTalks x = Checks.told("cut " + cut + ";plain " + last + " 1;plain 0 1;talk 0 1 1;");
            int hours = 2 * cut;
            due("the same phase alone is together each hour", x.best(1, 1, hours, 0), last);
            due("how many", x.best(1, 1, hours, 1), hours);
        }
    }

    static void promise20_best_pace1Alone() {
        BargeTalks x = Checks.told("cut 20;plain 5 9;plain 0 6;talk 0 1 1;");
        due("pace", x.best(0, 2, 1, 0), 1);
        due("how many", x.best(0, 2, 1, 1), 1);
    }

    static void promise20_best_pace9Alone() {
        BargeTalks x = Checks.told("cut 20;plain 0 1;plain 8 1;talk 0 1 1;");
        due("pace", x.best(0, 2, 1, 0), 9);
        due("how many", x.best(0, 2, 1, 1), 1);
        x.alter(1, 1, 9);
        due("out of reach: the least", x.best(0, 2, 1, 0), 1);
        due("none", x.best(0, 2, 1, 1), 0);
    }

    static void promise20_best_ofSeveralTheLeast() {
        BargeTalks x = Checks.told(Worlds.TOGETHER + "talk 0 1 1;");
        due("paces 2, 6 are as good", x.best(0, 2, 100, 0), 2);
        x.alter(0, 2, 6);
        due("though it is 6", x.best(0, 2, 100, 0), 2);
        due("how many", x.best(0, 2, 100, 1), 100);
    }

    static void promise20_best_alsoBeyond999() {
        BargeTalks x = Checks.told(Worlds.TOGETHER + "talk 0 1 1;");
        for (int i = 0; i < 10; i++) {
            x.hours(100);
        }
        due("ended", x.talk(0, 5), 999);
        due("pace", x.best(0, 2, 100, 0), 2);
        due("how many", x.best(0, 2, 100, 1), 100);
    }

    // ---- promise 21

    static void promise21_kind_takesABargeThatThereIs() {
        Bounds.only(0, 2, Worlds::rich, (x, v) -> x.kind(v, 5, 0));
        Bounds.only(0, 4, Worlds::full, (x, v) -> x.kind(v, 5, 1));
        Bounds.bad("none there", BargeTalks::new, x -> x.kind(0, 0, 0));
    }

    static void promise21_kind_takes0To100() {
        Bounds.only(0, 100, Worlds::rich, (x, v) -> x.kind(1, v, 1));
    }

    static void promise21_kind_takesWhat0And1() {
        Bounds.only(0, 1, Worlds::rich, (x, v) -> x.kind(1, 5, v));
    }

    static void promise21_kind_changesNothing() {
        for (int w = 0; w < 2; w++) {
            int what = w;
            Bounds.changesNothing("what " + w, Worlds::rich, x -> x.kind(1, 100, what), Worlds.rich().kind(1, 100, w));
        }
    }

    static void promise21_kind_in0HoursTheFirst_noneEnd() {
        due("kind", Worlds.rich().kind(1, 0, 0), 0);
        due("how many", Worlds.rich().kind(1, 0, 1), 0);
        due("no talks", Worlds.fiveBarges().kind(3, 100, 0), 0);
    }

    static void promise21_kind_plainTheFirstOfSeveral() {
        BargeTalks x = Checks.told("cut 2;deaf 0 2;plain 0 2;talk 0 1 1;");
        due("plain, quick, shy are as good", x.kind(0, 100, 0), 0);
        due("how many", x.kind(0, 100, 1), 100);
    }

    static void promise21_kind_quickAlone() {
        BargeTalks x = Checks.told(Worlds.TOGETHER + "talk 0 1 2;");
        due("kind", x.kind(0, 1, 0), 1);
        due("how many", x.kind(0, 1, 1), 1);
    }

    static void promise21_kind_shyAheadOfDeaf() {
        // The deaf one can say in even hours alone, for in odd ones a third is there: it is best to answer late.
        BargeTalks x = Checks.told("cut 2;memory 2;shy 0 6;plain 2 8;deaf 2 8;talk 2 1 2;");
        due("kind in 7", x.kind(1, 7, 0), 0);
        due("how many in 7", x.kind(1, 7, 1), 1);
        due("kind in 8", x.kind(1, 8, 0), 2);
        due("how many in 8", x.kind(1, 8, 1), 2);
    }

    static void promise21_kind_deafTheLastOfAll_alone() {
        // Here the answering one never meets the third one, so a shy one would answer too soon.
        BargeTalks x = Checks.told("cut 2;memory 2;shy 2 8;deaf 0 6;plain 1 6;talk 1 2 2;");
        due("kind in 7", x.kind(2, 7, 0), 0);
        due("kind in 8", x.kind(2, 8, 0), 3);
        due("how many in 8", x.kind(2, 8, 1), 2);
    }

    // ---- promise 22

    static void promise22_need_takes0To100() {
        Bounds.only(0, 100, Worlds::rich, (x, v) -> x.need(v));
        Bounds.only(0, 100, BargeTalks::new, (x, v) -> x.need(v));
    }

    static void promise22_need_changesNothing() {
        Bounds.changesNothing("100", Worlds::rich, x -> x.need(100), Worlds.rich().need(100));
    }

    static void promise22_need_1IsTheLeast() {
        due("no talks", new BargeTalks().need(100), 1);
        due("0 hours", Worlds.rich().need(0), 1);
        due("always together", Checks.told(Worlds.TOGETHER + "talk 0 1 20;").need(100), 1);
        due("nothing said", Checks.told(Worlds.APART + "talk 0 1 20;").need(100), 1);
    }

    private static BargeTalks silent(int hours) {
        BargeTalks x = Checks.told("memory 99;" + Worlds.APART + "talk 0 1 20;");
        x.say(0);
        x.hours(hours);
        return x;
    }

    static void promise22_need_99IsTheMost_beyondItNone() {
        due("98 hours", silent(0).need(98), 98);
        due("99 hours", silent(0).need(99), 99);
        due("100 hours", silent(0).need(100), NONE);
        due("1 hour behind 98", silent(98).need(1), 99);
        due("1 hour behind 99", silent(99).need(1), NONE);
        due("0 hours behind 99", silent(99).need(0), 1);
    }

    static void promise22_need_1Or2Hours() {
        due("1 hour", silent(0).need(1), 1);
        due("2 hours", silent(0).need(2), 2);
    }

    static void promise22_need_byLessOneIsLost_byItNoneIs() {
        BargeTalks x = Checks.told("cut 20;memory 1;plain 0 1;plain 20 1;talk 0 1 20;");
        int least = x.need(100);
        due("they pass each other every twentieth hour", least, 19);
        x.memory(least);
        due("by it", x.runs(100, 1), 0);
        x.memory(least - 1);
        due("by less", x.runs(100, 1) > 0 ? 1 : 0, 1);
        due("whatever the memory is now", x.need(100), least);
    }

    static void promise22_need_ofAllTalksTheMost() {
        BargeTalks x = Checks.told("cut 4;plain 0 8;plain 4 8;plain 0 8;talk 0 2 20;talk 0 1 20;");
        x.say(1);
        due("the last talk is silent", x.need(9), 9);
    }

    static void promise22_need_ofSixTalks_ofOnesThatAreCutNoMore() {
        BargeTalks x = Checks.told(Worlds.APART);
        for (int t = 0; t < 6; t++) {
            x.start(0, 1, 20);
        }
        x.say(5);
        due("the sixth is silent", x.need(100), NONE);
        due("for 9 hours", x.need(9), 9);
        x.cut(5);
        due("it is cut", x.need(100), 1);
        x.cut(0);
        due("all are cut", x.need(100), 1);
    }

    // ---- promise 23

    static void promise23_swap_takes0To100() {
        Bounds.only(0, 100, Worlds::rich, (x, v) -> x.swap(v, 0));
        Bounds.only(0, 100, BargeTalks::new, (x, v) -> x.swap(v, 0));
    }

    static void promise23_swap_takesWhat0And1() {
        Bounds.only(0, 1, Worlds::rich, (x, v) -> x.swap(5, v));
        Bounds.only(0, 1, BargeTalks::new, (x, v) -> x.swap(5, v));
    }

    static void promise23_swap_changesNothing() {
        for (int w = 0; w < 2; w++) {
            int what = w;
            Bounds.changesNothing("what " + w, BoundsOfBestTest::bySwapAlone, x -> x.swap(1, what), w == 0 ? 34 : 1);
        }
    }

    /** The fourth one comes up to the fifth one, if these two change: 0 to 2 and 1 to 2. */
    private static BargeTalks bySwapAlone() {
        return Checks.told("cut 20;shy 0 1;shy 0 1;shy 0 1;plain 0 1;plain 1 2;talk 3 4 1;");
    }

    static void promise23_swap_noneWithoutTwoBarges() {
        for (int w = 0; w < 2; w++) {
            due("no barges", new BargeTalks().swap(100, w), NONE);
            due("one barge", Checks.told("plain 0 1;").swap(100, w), NONE);
            due("no talks", Worlds.fiveBarges().swap(100, w), NONE);
        }
    }

    static void promise23_swap_noneIn0Hours() {
        due("0", bySwapAlone().swap(0, 0), NONE);
        due("0, how many", bySwapAlone().swap(0, 1), NONE);
    }

    static void promise23_swap_noneIfAsManyAsItIs() {
        BargeTalks x = Checks.told(Worlds.TOGETHER + "talk 0 1 1;");
        due("which", x.swap(100, 0), NONE);
        due("how many", x.swap(100, 1), NONE);
        BargeTalks y = Checks.told("cut 20;plain 0 3;plain 1 2;talk 0 1 1;");
        due("it ends as it is, and not so if they change", y.runs(1, 0), 1);
        due("which", y.swap(1, 0), NONE);
    }

    static void promise23_swap_theFirstPairIs1() {
        BargeTalks x = Checks.told("cut 20;plain 0 1;plain 1 2;talk 0 1 1;");
        due("which", x.swap(1, 0), 1);
        due("how many", x.swap(1, 1), 1);
    }

    static void promise23_swap_theLastPairIs34() {
        due("which", bySwapAlone().swap(1, 0), 34);
        due("how many", bySwapAlone().swap(1, 1), 1);
    }

    static void promise23_swap_ofSeveralTheLeast() {
        BargeTalks x = Checks.told("cut 20;plain 0 1;shy 9 2;shy 9 2;shy 9 2;plain 1 1;talk 0 4 1;");
        due("0 with 1, 2, 3 are as good", x.swap(1, 0), 1);
        due("how many", x.swap(1, 1), 1);
    }

    // ---- promise 24

    private static void luck(BargeTalks x, int v, int n, long above, long below) {
        due("luck " + v + " " + n + " above", x.luck(v, 0, n, 0), above);
        due("luck " + v + " " + n + " below", x.luck(v, 0, n, 1), below);
    }

    static void promise24_luck_takesOdds0To10() {
        Bounds.only(0, 10, Worlds::rich, (x, v) -> x.luck(v, 0, 3, 0));
    }

    static void promise24_luck_takesATalkThatThereIs() {
        Bounds.only(0, 2, Worlds::rich, (x, v) -> x.luck(5, v, 3, 0));
        Bounds.only(0, 5, Worlds::full, (x, v) -> x.luck(5, v, 3, 1));
        Bounds.bad("none there", Worlds::fiveBarges, x -> x.luck(5, 0, 3, 0));
    }

    static void promise24_luck_takes0To8() {
        Bounds.only(0, 8, Worlds::rich, (x, v) -> x.luck(5, 0, v, 0));
    }

    static void promise24_luck_takesWhat0And1() {
        Bounds.only(0, 1, Worlds::rich, (x, v) -> x.luck(5, 0, 3, v));
    }

    static void promise24_luck_changesNothing() {
        for (int w = 0; w < 2; w++) {
            int what = w;
            Bounds.changesNothing("what " + w, Worlds::rich, x -> x.luck(3, 2, 8, what), Worlds.rich().luck(3, 2, 8, w));
        }
    }

    static void promise24_luck_in0HoursNoneEnds() {
        for (int v = 0; v <= 10; v++) {
            luck(Checks.told(Worlds.TOGETHER + "talk 0 1 1;"), v, 0, 1, 1);
        }
    }

    static void promise24_luck_fogBy0AndBy10() {
        BargeTalks x = Checks.told(Worlds.TOGETHER + "talk 0 1 8;");
        luck(x, 0, 7, 1, 1);
        luck(x, 0, 8, 0, 1);
        luck(x, 10, 8, 1, 1);
    }

    static void promise24_luck_fogBy1AndBy9_in8Hours() {
        BargeTalks x = Checks.told(Worlds.TOGETHER + "talk 0 1 1;");
        luck(x, 1, 8, 1, ALL_WAYS);
        luck(x, 9, 8, 43046721, ALL_WAYS);
        BargeTalks long8 = Checks.told(Worlds.TOGETHER + "talk 0 1 8;");
        luck(long8, 1, 8, ALL_WAYS - 43046721, ALL_WAYS);
        luck(long8, 9, 8, ALL_WAYS - 1, ALL_WAYS);
        luck(long8, 5, 8, 255, 256);
        luck(long8, 9, 7, 1, 1);
    }

    static void promise24_luck_whereTheyNeverMeet() {
        luck(Checks.told(Worlds.APART + "talk 0 1 1;"), 0, 8, 1, 1);
        luck(Checks.told(Worlds.APART + "talk 0 1 1;"), 5, 8, 1, 1);
    }

    static void promise24_luck_fogMakesSilence_whichMayLoseATalk() {
        // One word is said already; two hours of fog lose it, and then it takes two words again.
        BargeTalks x = Checks.told("memory 1;" + Worlds.TOGETHER + "talk 0 1 2;");
        x.hours(1);
        luck(x, 5, 1, 1, 2);
        luck(x, 5, 2, 1, 4);
        luck(x, 5, 3, 1, 4);
        luck(x, 5, 4, 3, 16);
    }

    static void promise24_luck_inFogNobodyMeetsAnybody_noNodComes() {
        BargeTalks x = Checks.told("cut 2;deaf 0 2;plain 0 2;talk 0 1 1;");
        luck(x, 5, 1, 1, 1);
        luck(x, 5, 2, 3, 4);
        luck(x, 10, 8, 1, 1);
    }

    static void promise24_luck_aShyOneAmong2SaysNone_alsoWithoutFog() {
        luck(Checks.told("cut 2;shy 0 2;plain 0 2;talk 0 1 1;"), 5, 1, 1, 2);
        luck(Checks.told("cut 2;shy 0 2;plain 0 2;plain 0 2;talk 0 1 1;"), 5, 1, 1, 1);
        luck(Checks.told("cut 2;plain 0 2;shy 0 2;talk 0 1 2;"), 5, 2, 3, 4);
        luck(Checks.told("cut 2;plain 0 2;shy 0 2;plain 0 2;talk 0 1 2;"), 5, 2, 1, 1);
        luck(Checks.told("cut 2;plain 0 2;shy 0 2;plain 0 2;talk 0 1 2;"), 0, 8, 1, 1);
    }

    static void promise24_luck_atTheLastHourToo() {
        BargeTalks x = Worlds.lastHour();
        due("need 7, 3 are said", x.talk(0, 3), 3);
        luck(x, 0, 3, 1, 1);
        luck(x, 0, 4, 0, 1);
    }

    // ---- promise 25

    private static void mean(BargeTalks x, int v, int n, long above, long below) {
        due("mean " + v + " " + n + " above", x.mean(v, n, 0), above);
        due("mean " + v + " " + n + " below", x.mean(v, n, 1), below);
    }

    static void promise25_mean_takesOdds0To10() {
        Bounds.only(0, 10, Worlds::rich, (x, v) -> x.mean(v, 3, 0));
        Bounds.only(0, 10, BargeTalks::new, (x, v) -> x.mean(v, 3, 0));
    }

    static void promise25_mean_takes0To8() {
        Bounds.only(0, 8, Worlds::rich, (x, v) -> x.mean(5, v, 0));
        Bounds.only(0, 8, BargeTalks::new, (x, v) -> x.mean(5, v, 0));
    }

    static void promise25_mean_takesWhat0And1() {
        Bounds.only(0, 1, Worlds::rich, (x, v) -> x.mean(5, 3, v));
        Bounds.only(0, 1, BargeTalks::new, (x, v) -> x.mean(5, 3, v));
    }

    static void promise25_mean_changesNothing() {
        for (int w = 0; w < 2; w++) {
            int what = w;
            Bounds.changesNothing("what " + w, Worlds::rich, x -> x.mean(3, 8, what), Worlds.rich().mean(3, 8, w));
        }
    }

    static void promise25_mean_0Is0By1() {
        mean(new BargeTalks(), 5, 8, 0, 1);
        mean(Worlds.fiveBarges(), 5, 8, 0, 1);
        mean(Checks.told(Worlds.TOGETHER + "talk 0 1 1;"), 5, 0, 0, 1);
        mean(Checks.told(Worlds.TOGETHER + "talk 0 1 1;"), 10, 8, 0, 1);
        mean(Checks.told(Worlds.APART + "talk 0 1 1;"), 0, 8, 0, 1);
    }

    static void promise25_mean_mostOfAll_6QuickTalksIn8Hours() {
        String six = "talk 0 1 1;talk 0 1 2;talk 0 1 3;talk 1 0 4;talk 1 0 19;talk 0 1 20;";
        BargeTalks x = Checks.told("cut 2;quick 0 2;quick 0 2;" + six);
        mean(x, 0, 8, 96, 1);
        mean(x, 5, 8, 48, 1);
        mean(x, 9, 8, 48, 5);
        mean(x, 1, 1, 54, 5);
    }

    static void promise25_mean_fogBy1AndBy9_in8Hours() {
        BargeTalks x = Checks.told(Worlds.TOGETHER + "talk 0 1 20;");
        mean(x, 0, 8, 8, 1);
        mean(x, 1, 8, 36, 5);
        mean(x, 9, 8, 4, 5);
    }

    static void promise25_mean_whoseTurnItIsGoesByTheFogAhead() {
        // One hour of two is clear by 18 of 100: 1 word; both are by 1 of 100: 1 word and 2.
        BargeTalks x = Checks.told("cut 2;plain 0 2;quick 0 2;talk 0 1 20;");
        mean(x, 9, 1, 1, 10);
        mean(x, 9, 2, 21, 100);
    }

    static void promise25_mean_atTheLastHourToo() {
        mean(Worlds.lastHour(), 0, 8, 16, 1);
    }
}
