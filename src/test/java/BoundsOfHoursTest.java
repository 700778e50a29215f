/** Boundaries of promises 14 to 19: hours that run, and as they would. */
public final class BoundsOfHoursTest {
    private static final int BAD = -1, FULL = -3, NONE = -4;

    public static void main(String[] args) throws ReflectiveOperationException {
        Bounds.runAll(BoundsOfHoursTest.class, 14, 19);
    }

    private static void due(String what, long got, long want) {
        Bounds.due(what, got, want);
    }

    // ---- promise 14

    static void promise14_hours_takes0To100() {
        Bounds.only(0, 100, Worlds::rich, (x, v) -> x.hours(v));
        Bounds.only(0, 100, BargeTalks::new, (x, v) -> x.hours(v));
    }

    static void promise14_hours_0ChangesNothing() {
        Bounds.changesNothing("0", Worlds::rich, x -> x.hours(0), 0);
    }

    static void promise14_hours_100AreAsOneByOne() {
        BargeTalks x = Worlds.rich();
        BargeTalks twin = Worlds.rich();
        int ended = 0;
        for (int h = 0; h < 100; h++) {
            ended += twin.hours(1);
        }
        due("ended", x.hours(100), ended);
        due("hour", x.rule(2), 107);
        for (int i = 0; i < 27; i++) {
            due("talk", x.talk(i / 9, i % 9), twin.talk(i / 9, i % 9));
        }
        for (int b = 0; b < 3; b++) {
            due("phase", x.barge(b, 1), twin.barge(b, 1));
        }
    }

    private static BargeTalks atHour(int hour) {
        BargeTalks x = Checks.told(Worlds.TOGETHER + "talk 0 1 7;");
        for (int i = 0; i < hour / 100; i++) {
            x.hours(100);
        }
        x.hours(hour % 100);
        return x;
    }

    static void promise14_hours_to9999AreTaken_to10000AreFull() {
        due("9900 and 99", atHour(9900).hours(99), 14);
        due("hour", atHour(9999).rule(2), 9999);
        Bounds.changesNothing("9900 and 100", () -> atHour(9900), x -> x.hours(100), FULL);
        Bounds.changesNothing("9999 and 1", () -> atHour(9999), x -> x.hours(1), FULL);
        Bounds.changesNothing("9999 and 100", () -> atHour(9999), x -> x.hours(100), FULL);
        Bounds.changesNothing("9950 and 50", () -> atHour(9950), x -> x.hours(50), FULL);
        due("9950 and 49", atHour(9950).hours(49) >= 0 ? 0 : 1, 0);
        due("9899 and 100", atHour(9899).hours(100) >= 0 ? 0 : 1, 0);
    }

    static void promise14_hours_0AreTakenAt9999() {
        Bounds.changesNothing("0", () -> atHour(9999), x -> x.hours(0), 0);
    }

    static void promise14_hours_aWrongNumberAt9999IsBad() {
        Bounds.bad("-1", () -> atHour(9999), x -> x.hours(-1));
        Bounds.bad("101", () -> atHour(9999), x -> x.hours(101));
    }

    static void promise14_hours_tellHowManyEnd_alsoBeyond999() {
        BargeTalks x = Checks.told(Worlds.TOGETHER + "talk 0 1 1;talk 0 1 1;");
        for (int i = 0; i < 12; i++) {
            due("100 hours of two", x.hours(100), 200);
        }
        due("ended of all", x.rule(5), 2 * 999);
    }

    static void promise14_hours_withoutTalksNoneEnd() {
        due("no barges", new BargeTalks().hours(100), 0);
        due("no talks", Worlds.fiveBarges().hours(100), 0);
    }

    // ---- promise 15

    static void promise15_runs_takes0To100() {
        Bounds.only(0, 100, Worlds::rich, (x, v) -> x.runs(v, 0));
    }

    static void promise15_runs_takesWhat0To3() {
        Bounds.only(0, 3, Worlds::rich, (x, v) -> x.runs(5, v));
    }

    static void promise15_runs_0AreNone() {
        for (int w = 0; w <= 3; w++) {
            due("what " + w, Worlds.rich().runs(0, w), 0);
            due("what " + w + " of nothing", new BargeTalks().runs(100, w), 0);
        }
    }

    static void promise15_runs_changeNothing() {
        int[] is = new int[4];
        for (int w = 0; w <= 3; w++) {
            is[w] = Worlds.rich().runs(100, w);
            int what = w;
            Bounds.changesNothing("what " + w, Worlds::rich, x -> x.runs(100, what), is[w]);
        }
    }

    static void promise15_runs_atTheLastHourToo() {
        BargeTalks x = Worlds.lastHour();
        due("pairs", x.runs(100, 3), 100);
        due("words", x.runs(100, 2), 200);
        due("hour", x.rule(2), 9999);
    }

    static void promise15_runs0_endedBeyond999() {
        BargeTalks x = Checks.told(Worlds.TOGETHER + "talk 0 1 1;talk 0 1 1;talk 0 1 1;talk 0 1 1;talk 0 1 1;talk 0 1 1;");
        for (int i = 0; i < 9; i++) {
            x.hours(100);
        }
        x.hours(99);
        due("ended", x.talk(5, 5), 999);
        due("in 100", x.runs(100, 0), 600);
    }

    static void promise15_runs1_lostBeyond999() {
        BargeTalks x = Checks.told("cut 3;memory 1;plain 0 1;plain 3 1;talk 0 1 9;");
        for (int i = 0; i < 30; i++) {
            x.hours(100);
        }
        due("lost", x.talk(0, 6), 999);
        due("in 99", x.runs(99, 1), 33);
    }

    static void promise15_runs2_wordsAreUncut() {
        BargeTalks x = Checks.told("cut 2;quick 0 2;quick 0 2;talk 0 1 1;talk 0 1 3;");
        due("of 1 hour", x.runs(1, 2), 4);
        due("of 2 hours", x.runs(2, 2), 8);
        due("of 100 hours", x.runs(100, 2), 400);
        due("ended in 2", x.runs(2, 0), 3);
    }

    static void promise15_runs3_pairsEachHour() {
        BargeTalks x = Checks.told("cut 2;shy 0 1;shy 0 1;shy 0 1;shy 0 1;shy 0 1;");
        due("1 hour", x.runs(1, 3), 10);
        due("100 hours", x.runs(100, 3), 1000);
        due("none ever", Worlds.apart().runs(100, 3), 0);
        due("one barge", Checks.told("plain 0 1;").runs(100, 3), 0);
    }

    // ---- promise 16

    static void promise16_ahead_takesATalkThatThereIs() {
        Bounds.only(0, 2, Worlds::rich, (x, v) -> x.ahead(v, 3, 0));
        Bounds.only(0, 5, Worlds::full, (x, v) -> x.ahead(v, 3, 1));
        Bounds.bad("none there", Worlds::fiveBarges, x -> x.ahead(0, 0, 0));
    }

    static void promise16_ahead_takes0To100() {
        Bounds.only(0, 100, Worlds::rich, (x, v) -> x.ahead(1, v, 0));
    }

    static void promise16_ahead_takesWhat0And1() {
        Bounds.only(0, 1, Worlds::rich, (x, v) -> x.ahead(1, 3, v));
    }

    static void promise16_ahead_behind0IsNow() {
        BargeTalks x = Checks.told(Worlds.TOGETHER + "talk 0 1 20;");
        x.hours(19);
        due("said", x.ahead(0, 0, 0), 19);
        due("ends", x.ahead(0, 0, 1), 0);
        due("said behind 1", x.ahead(0, 1, 0), 0);
        due("ends in 1", x.ahead(0, 1, 1), 1);
    }

    static void promise16_ahead_behind100_alsoBeyond999_alsoAtTheLastHour() {
        BargeTalks x = Checks.told(Worlds.TOGETHER + "talk 0 1 1;talk 0 1 20;");
        for (int i = 0; i < 10; i++) {
            x.hours(100);
        }
        due("ends", x.ahead(0, 100, 1), 100);
        due("ends of the other", x.ahead(1, 100, 1), 5);
        due("said", x.ahead(1, 99, 0), 19);
        due("at the last hour", Worlds.lastHour().ahead(1, 100, 1), 5);
    }

    static void promise16_ahead_changesNothing() {
        int said = Worlds.rich().ahead(1, 100, 0);
        int ends = Worlds.rich().ahead(1, 100, 1);
        Bounds.changesNothing("said", Worlds::rich, x -> x.ahead(1, 100, 0), said);
        Bounds.changesNothing("ends", Worlds::rich, x -> x.ahead(1, 100, 1), ends);
    }

    // ---- promise 17

    static void promise17_at_takesABargeThatThereIs() {
        Bounds.only(0, 2, Worlds::rich, (x, v) -> x.at(v, 3));
        Bounds.only(0, 4, Worlds::full, (x, v) -> x.at(v, 3));
        Bounds.bad("none there", BargeTalks::new, x -> x.at(0, 0));
    }

    static void promise17_at_takes0To100() {
        Bounds.only(0, 100, Worlds::rich, (x, v) -> x.at(1, v));
    }

    static void promise17_at_behindEachAsTheHoursGo() {
        for (String text : new String[] {"cut 2;plain 3 9;", "cut 20;plain 39 9;", "cut 20;plain 0 1;", "cut 7;plain 6 8;"}) {
            BargeTalks x = Checks.told(text);
            BargeTalks goes = Checks.told(text);
            for (int n = 0; n <= 100; n++) {
                due(text + " behind " + n, x.at(0, n), goes.barge(0, 3));
                goes.hours(1);
            }
        }
    }

    static void promise17_at_theEnds() {
        BargeTalks x = Checks.told("cut 20;plain 0 1;");
        due("now", x.at(0, 0), 0);
        due("the far end", x.at(0, 20), 20);
        due("behind it", x.at(0, 21), 19);
        due("ahead of the near end", x.at(0, 39), 1);
        due("the near end", x.at(0, 40), 0);
        due("behind 100", x.at(0, 100), 20);
    }

    static void promise17_at_changesNothing() {
        int at = Worlds.rich().at(1, 99);
        Bounds.changesNothing("99", Worlds::rich, x -> x.at(1, 99), at);
    }

    // ---- promise 18

    static void promise18_when_takesBargesThatThereAre() {
        Bounds.only(0, 1, Worlds::rich, (x, v) -> x.when(v, 2));
        Bounds.only(1, 2, Worlds::rich, (x, v) -> x.when(0, v));
        Bounds.bad("none there", BargeTalks::new, x -> x.when(0, 1));
        Bounds.bad("one there", () -> Checks.told("plain 0 1;"), x -> x.when(0, 1));
        due("the last of five", Worlds.fiveBarges().when(4, 0) >= NONE ? 0 : 1, 0);
        Bounds.bad("a sixth", Worlds::fiveBarges, x -> x.when(0, 5));
    }

    static void promise18_when_oneBargeTwiceIsBad() {
        for (int b = 0; b < 5; b++) {
            int twice = b;
            Bounds.bad("barge " + b, Worlds::fiveBarges, x -> x.when(twice, twice));
        }
    }

    static void promise18_when_0IsThisHour_1TheNextOne() {
        BargeTalks x = Checks.told("cut 3;plain 0 1;plain 3 1;");
        due("behind one", x.when(0, 1), 1);
        x.hours(1);
        due("this one", x.when(0, 1), 0);
        due("the other way", x.when(1, 0), 0);
        x.hours(1);
        due("behind two", x.when(0, 1), 2);
    }

    static void promise18_when_theLatestThatThereIs() {
        BargeTalks x = Checks.told("cut 20;plain 1 1;plain 0 1;");
        due("at the far end", x.when(0, 1), 19);
        due("the other way", x.when(1, 0), 19);
    }

    static void promise18_when_noneInAnyHour() {
        due("apart", Worlds.apart().when(0, 1), NONE);
        due("the other way", Worlds.apart().when(1, 0), NONE);
        due("one stands at 0, one is at 2 on both its ways", Checks.told("cut 4;plain 0 8;plain 2 4;").when(0, 1), NONE);
    }

    static void promise18_when_changesNothing() {
        int when = Worlds.rich().when(0, 2);
        Bounds.changesNothing("when", Worlds::rich, x -> x.when(0, 2), when);
        Bounds.changesNothing("none", Worlds::apart, x -> x.when(0, 1), NONE);
    }

    static void promise18_when_atTheLastHourToo() {
        due("this one", Worlds.lastHour().when(0, 1), 0);
    }

    // ---- promise 19

    static void promise19_again_1WhereAllStand() {
        due("cut 2 by 4 and 8", Checks.told("cut 2;plain 1 4;plain 3 8;").again(), 1);
        due("cut 4 by 8", Worlds.apart().again(), 1);
        due("no barges", new BargeTalks().again(), 1);
    }

    static void promise19_again_40AtMost() {
        due("cut 20 by 1", Checks.told("cut 20;plain 39 1;").again(), 40);
        due("cut 20 by 5 and 8", Checks.told("cut 20;plain 0 5;plain 0 8;").again(), 40);
        due("cut 20 by 9", Checks.told("cut 20;plain 0 9;").again(), 40);
        due("cut 19 by 2", Checks.told("cut 19;plain 0 2;").again(), 19);
    }

    static void promise19_again_allOfThem_notSome() {
        due("the last of five", Checks.told("cut 4;shy 0 8;shy 0 8;shy 0 8;shy 0 8;shy 0 4;").again(), 2);
        due("the first of five", Checks.told("cut 4;shy 0 2;shy 0 8;shy 0 8;shy 0 8;shy 0 8;").again(), 4);
    }

    static void promise19_again_phasesNotPlaces() {
        // Behind one hour it is at the same place, on its way back.
        BargeTalks x = Checks.told("cut 4;plain 3 2;");
        due("place", x.at(0, 1), 3);
        due("phase", x.again(), 4);
    }

    static void promise19_again_everyCutAndPaceComesBack() {
        for (int cut = 2; cut <= 20; cut++) {
            for (int pace = 1; pace <= 9; pace++) {
                BargeTalks x = Checks.told("cut " + cut + ";plain 1 " + pace + ";");
                int again = x.again();
                int first = 1;
                while (first * pace % (2 * cut) != 0) {
                    first++;
                }
                due("cut " + cut + " by " + pace, again, first);
            }
        }
    }

    static void promise19_again_changesNothing() {
        int again = Worlds.rich().again();
        Bounds.changesNothing("again", Worlds::rich, x -> x.again(), again);
    }
}
