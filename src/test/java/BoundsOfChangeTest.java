/** Boundaries of promises 9 to 13: what is changed by hand. */
public final class BoundsOfChangeTest {
    private static final int BAD = -1, FULL = -3;

    public static void main(String[] args) throws ReflectiveOperationException {
        Bounds.runAll(BoundsOfChangeTest.class, 9, 13);
    }

    private static void due(String what, long got, long want) {
        Bounds.due(what, got, want);
    }

    // ---- promise 9

    static void promise9_alter_takesABargeThatThereIs() {
        Bounds.only(0, 2, Worlds::rich, (x, v) -> x.alter(v, 0, 1));
        Bounds.only(0, 4, Worlds::full, (x, v) -> x.alter(v, 2, 5));
        Bounds.bad("none there", BargeTalks::new, x -> x.alter(0, 2, 1));
    }

    static void promise9_alter_takesWhat0To2() {
        Bounds.only(0, 2, Worlds::rich, (x, v) -> x.alter(0, v, 1));
    }

    static void promise9_alter_takesKinds0To3() {
        Bounds.only(0, 3, Worlds::rich, (x, v) -> x.alter(1, 0, v));
    }

    static void promise9_alter_takesPhases0ToTwiceCutLess1() {
        Bounds.only(0, 7, Worlds::rich, (x, v) -> x.alter(1, 1, v));
        Bounds.only(0, 3, Worlds::together, (x, v) -> x.alter(1, 1, v));
        Bounds.only(0, 19, Worlds::fiveBarges, (x, v) -> x.alter(1, 1, v));
        Bounds.only(0, 39, () -> Checks.told("cut 20;plain 0 1;"), (x, v) -> x.alter(0, 1, v));
    }

    static void promise9_alter_takesPaces1To9() {
        Bounds.only(1, 9, Worlds::rich, (x, v) -> x.alter(1, 2, v));
    }

    static void promise9_alter_tellsWhatItWas_leastAndMost() {
        BargeTalks x = Checks.told("cut 20;deaf 39 9;");
        int[] most = {3, 39, 9};
        int[] least = {0, 0, 1};
        for (int w = 0; w < 3; w++) {
            due("was the most", x.alter(0, w, least[w]), most[w]);
            due("is the least", x.barge(0, w), least[w]);
            due("was the least", x.alter(0, w, most[w]), least[w]);
            due("is the most", x.barge(0, w), most[w]);
        }
    }

    static void promise9_alter_toWhatItIsChangesNothing() {
        int[] is = {Worlds.rich().barge(1, 0), Worlds.rich().barge(1, 1), Worlds.rich().barge(1, 2)};
        for (int w = 0; w < 3; w++) {
            int what = w;
            Bounds.changesNothing("what " + w, Worlds::rich, x -> x.alter(1, what, is[what]), is[what]);
        }
    }

    static void promise9_alter_leavesTheOtherBargesAndAllTalks() {
        BargeTalks x = Worlds.rich();
        BargeTalks twin = Worlds.rich();
        x.alter(1, 0, 0);
        x.alter(1, 1, 0);
        x.alter(1, 2, 1);
        for (int w = 0; w < 3; w++) {
            due("barge 0", x.barge(0, w), twin.barge(0, w));
            due("barge 2", x.barge(2, w), twin.barge(2, w));
        }
        for (int i = 0; i < 27; i++) {
            due("talk", x.talk(i / 9, i % 9), twin.talk(i / 9, i % 9));
        }
        due("hour", x.rule(2), twin.rule(2));
    }

    // ---- promise 10

    static void promise10_memory_takes1To99() {
        Bounds.only(1, 99, Worlds::rich, (x, v) -> x.memory(v));
        Bounds.only(1, 99, BargeTalks::new, (x, v) -> x.memory(v));
    }

    static void promise10_memory_tellsWhatItWas_40AtFirst() {
        BargeTalks x = new BargeTalks();
        due("at first", x.memory(1), 40);
        due("the least", x.memory(99), 1);
        due("the most", x.memory(40), 99);
        due("is", x.rule(4), 40);
    }

    static void promise10_memory_belowSinceLosesNothingUntilTheHourGoes() {
        BargeTalks x = Checks.told(Worlds.APART + "talk 0 1 20;");
        x.say(0);
        x.hours(7);
        x.memory(1);
        due("since", x.talk(0, 4), 7);
        due("said", x.talk(0, 3), 1);
        due("lost", x.talk(0, 6), 0);
        x.hours(1);
        due("lost then", x.talk(0, 6), 1);
    }

    static void promise10_memory_asMuchAsSinceWillBe_keepsTheTalkOneHour() {
        BargeTalks x = Checks.told(Worlds.APART + "talk 0 1 20;");
        x.say(0);
        x.hours(7);
        x.memory(8);
        x.hours(1);
        due("since", x.talk(0, 4), 8);
        due("not lost", x.talk(0, 6), 0);
        x.hours(1);
        due("lost", x.talk(0, 6), 1);
    }

    // ---- promise 11

    static void promise11_start_takesABargeThatThereIs_first() {
        Bounds.only(0, 1, Worlds::rich, (x, v) -> x.start(v, 2, 1));
        Bounds.only(0, 3, Worlds::fiveBarges, (x, v) -> x.start(v, 4, 1));
        due("the last of five", Worlds.fiveBarges().start(4, 0, 1), 1);
    }

    static void promise11_start_takesABargeThatThereIs_second() {
        Bounds.only(1, 2, Worlds::rich, (x, v) -> x.start(0, v, 1));
        due("the last of five", Worlds.fiveBarges().start(0, 4, 1), 1);
        Bounds.bad("a sixth", Worlds::fiveBarges, x -> x.start(0, 5, 1));
    }

    static void promise11_start_notOfOneBargeTwice() {
        for (int b = 0; b < 5; b++) {
            int twice = b;
            Bounds.bad("barge " + b, Worlds::fiveBarges, x -> x.start(twice, twice, 1));
        }
    }

    static void promise11_start_needsTwoBarges() {
        Bounds.bad("none there", BargeTalks::new, x -> x.start(0, 1, 1));
        Bounds.bad("one there", () -> Checks.told("plain 0 1;"), x -> x.start(0, 1, 1));
        Bounds.bad("one there, as second", () -> Checks.told("plain 0 1;"), x -> x.start(1, 0, 1));
        due("two there", Worlds.together().start(0, 1, 1), 1);
    }

    static void promise11_start_takesNeeds1To20() {
        Bounds.only(1, 20, Worlds::rich, (x, v) -> x.start(2, 1, v));
    }

    static void promise11_start_the6thIsTaken_the7thIsFull() {
        BargeTalks x = Worlds.fiveBarges();
        for (int n = 1; n <= 6; n++) {
            due("talk " + n, x.start(0, 1, n), n);
        }
        due("7th", x.start(0, 1, 7), FULL);
        due("talks", x.rule(1), 6);
        Bounds.changesNothing("7th", Worlds::full, y -> y.start(0, 1, 1), FULL);
    }

    static void promise11_start_aWrong7thIsBad() {
        Bounds.bad("first", Worlds::full, x -> x.start(5, 1, 1));
        Bounds.bad("second", Worlds::full, x -> x.start(0, -1, 1));
        Bounds.bad("one twice", Worlds::full, x -> x.start(3, 3, 1));
        Bounds.bad("need 0", Worlds::full, x -> x.start(0, 1, 0));
        Bounds.bad("need 21", Worlds::full, x -> x.start(0, 1, 21));
    }

    static void promise11_start_isTakenAgainWhereOneIsCut() {
        BargeTalks x = Worlds.full();
        x.cut(5);
        due("6th again", x.start(0, 1, 1), 6);
        due("7th", x.start(0, 1, 1), FULL);
    }

    static void promise11_start_behindAllOthers_asAtFirst() {
        BargeTalks x = Worlds.rich();
        BargeTalks twin = Worlds.rich();
        due("how many", x.start(2, 1, 20), 4);
        int[] due = {2, 1, 20, 0, 0, 0, 0, 2, 0};
        for (int w = 0; w < 9; w++) {
            due("what " + w, x.talk(3, w), due[w]);
        }
        for (int i = 0; i < 27; i++) {
            due("the others", x.talk(i / 9, i % 9), twin.talk(i / 9, i % 9));
        }
    }

    static void promise11_start_inPlaceOfOneThatIsCut_asAtFirst() {
        BargeTalks x = Checks.told("memory 1;cut 4;plain 0 8;deaf 4 8;talk 0 1 20;");
        x.say(0);
        x.hours(2);
        for (int i = 0; i < 32; i++) {
            x.say(0);
        }
        x.hours(1);
        int[] was = {0, 1, 20, 1, 1, 1, 1, 1, 1};
        for (int w = 0; w < 9; w++) {
            due("what was " + w, x.talk(0, w), was[w]);
        }
        x.cut(0);
        x.start(1, 0, 1);
        int[] due = {1, 0, 1, 0, 0, 0, 0, 1, 0};
        for (int w = 0; w < 9; w++) {
            due("what " + w, x.talk(0, w), due[w]);
        }
    }

    // ---- promise 12

    static void promise12_cut_takes0ToAsManyAsThereAre() {
        Bounds.only(0, 3, Worlds::rich, (x, v) -> x.cut(v));
        Bounds.only(0, 6, Worlds::full, (x, v) -> x.cut(v));
        Bounds.only(0, 0, Worlds::fiveBarges, (x, v) -> x.cut(v));
    }

    static void promise12_cut_atAllChangesNothing() {
        Bounds.changesNothing("all", Worlds::rich, x -> x.cut(3), 3);
        Bounds.changesNothing("none of none", BargeTalks::new, x -> x.cut(0), 0);
    }

    static void promise12_cut_keepsTheFirstOnes() {
        for (int n = 0; n <= 6; n++) {
            BargeTalks x = Worlds.full();
            due("there were", x.cut(n), 6);
            due("there are", x.rule(1), n);
            for (int t = 0; t < 6; t++) {
                due("need of " + t, x.talk(t, 2), t < n ? 20 - t : BAD);
            }
            due("one too many then", x.cut(n + 1), BAD);
        }
    }

    static void promise12_cut_leavesCutAndBarges() {
        BargeTalks x = Worlds.rich();
        x.cut(0);
        due("the cut", x.rule(3), 4);
        due("barges", x.rule(0), 3);
        due("seen", x.count(0), 3);
    }

    // ---- promise 13

    static void promise13_say_takesATalkThatThereIs() {
        Bounds.only(0, 2, Worlds::rich, (x, v) -> x.say(v));
        Bounds.only(0, 5, Worlds::full, (x, v) -> x.say(v));
        Bounds.bad("none there", Worlds::fiveBarges, x -> x.say(0));
    }

    static void promise13_say_wordsByKind() {
        String[] kinds = {"plain", "quick", "shy", "deaf"};
        int[] words = {1, 2, 1, 0};
        for (int k = 0; k < 4; k++) {
            BargeTalks x = Checks.told(kinds[k] + " 0 1;plain 9 1;talk 0 1 20;");
            due(kinds[k], x.say(0), words[k]);
            due("said by " + kinds[k], x.talk(0, 3), words[k]);
            due("nod of " + kinds[k], x.talk(0, 8), k == 3 ? 1 : 0);
        }
    }

    static void promise13_say_asIfNoOthersMet() {
        BargeTalks x = Checks.told("cut 2;shy 0 2;deaf 0 2;shy 0 2;shy 0 2;shy 0 2;talk 0 1 3;");
        due("others", x.barge(0, 4), 4);
        due("shy", x.say(0), 1);
        due("deaf nods", x.say(0), 0);
        due("deaf", x.say(0), 1);
    }

    static void promise13_say_asIfTheyMet_thoughTheyNeverDo() {
        BargeTalks x = Checks.told(Worlds.APART + "talk 0 1 2;");
        due("never", x.when(0, 1), -4);
        due("says", x.say(0), 1);
    }

    static void promise13_say_endsAtNeed1() {
        BargeTalks x = Checks.told("plain 0 1;plain 9 1;talk 0 1 1;");
        due("says", x.say(0), 1);
        due("ended", x.talk(0, 5), 1);
        due("said", x.talk(0, 3), 0);
    }

    static void promise13_say_endsAtNeed20_notAt19() {
        BargeTalks x = Checks.told("plain 0 1;plain 9 1;talk 0 1 20;");
        for (int i = 0; i < 19; i++) {
            x.say(0);
        }
        due("said", x.talk(0, 3), 19);
        due("ended", x.talk(0, 5), 0);
        x.say(0);
        due("said then", x.talk(0, 3), 0);
        due("ended then", x.talk(0, 5), 1);
        due("turn of the first one", x.talk(0, 7), 0);
    }

    static void promise13_say_quickSays2_thoughOneIsLeft() {
        BargeTalks x = Checks.told("quick 0 1;quick 9 1;talk 0 1 3;talk 0 1 1;");
        due("of need 3", x.say(0), 2);
        due("said", x.talk(0, 3), 2);
        due("one is left", x.say(0), 2);
        due("ended", x.talk(0, 5), 1);
        due("of need 1", x.say(1), 2);
        due("ended too", x.talk(1, 5), 1);
        due("said", x.talk(1, 3), 0);
    }

    static void promise13_say_since0IfAnyWord_elseAsItWas() {
        BargeTalks x = Checks.told("cut 4;plain 0 8;deaf 4 8;talk 0 1 20;");
        x.say(0);
        x.hours(5);
        due("nods", x.say(0), 0);
        due("since", x.talk(0, 4), 5);
        due("says", x.say(0), 1);
        due("since then", x.talk(0, 4), 0);
    }

    static void promise13_say_aNodAtTheEndOfMemoryLosesNothing() {
        BargeTalks x = Checks.told("memory 1;cut 4;plain 0 8;deaf 4 8;talk 0 1 20;");
        x.say(0);
        x.hours(1);
        x.say(0);
        due("lost", x.talk(0, 6), 0);
        due("said", x.talk(0, 3), 1);
        due("since", x.talk(0, 4), 1);
    }

    static void promise13_say_endTakesTheNodAlong_at999Too() {
        BargeTalks x = Checks.told("cut 2;plain 0 2;plain 0 2;talk 0 1 1;");
        for (int i = 0; i < 10; i++) {
            x.hours(100);
        }
        x.alter(0, 0, 3);
        due("nods", x.say(0), 0);
        due("nod", x.talk(0, 8), 1);
        x.alter(0, 0, 1);
        due("quick", x.say(0), 2);
        due("nod then", x.talk(0, 8), 0);
        due("ended", x.talk(0, 5), 999);
    }

    static void promise13_say_noHourGoes_noBargeGoes_noOtherTalkGoesOn() {
        BargeTalks x = Worlds.rich();
        BargeTalks twin = Worlds.rich();
        x.say(1);
        due("hour", x.rule(2), twin.rule(2));
        for (int b = 0; b < 3; b++) {
            due("phase", x.barge(b, 1), twin.barge(b, 1));
        }
        for (int w = 0; w < 9; w++) {
            due("talk 0", x.talk(0, w), twin.talk(0, w));
            due("talk 2", x.talk(2, w), twin.talk(2, w));
        }
    }

    static void promise13_say_atTheLastHourToo() {
        BargeTalks x = Worlds.lastHour();
        due("says", x.say(0), 1);
        due("hour", x.rule(2), 9999);
    }
}
