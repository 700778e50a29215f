/** Boundaries of promises 26 to 31: what was seen, what to hear, and paces by a seed. */
public final class BoundsOfSeenTest {
    private static final int STATE = -2, FULL = -3, NONE = -4;
    private static final int ALL_KINDS = 15, ALL_PACES = 1022;

    public static void main(String[] args) throws ReflectiveOperationException {
        Bounds.runAll(BoundsOfSeenTest.class, 26, 31);
    }

    private static void due(String what, long got, long want) {
        Bounds.due(what, got, want);
    }

    // ---- promise 26

    static void promise26_see_takes0To20Hours() {
        Bounds.only(0, 20, Worlds::rich, (x, v) -> x.see(v, 0, 0));
    }

    static void promise26_see_takesATalkThatThereIs() {
        Bounds.only(0, 2, Worlds::rich, (x, v) -> x.see(0, v, 0));
        Bounds.only(0, 5, Worlds::sixTalks, (x, v) -> x.see(0, v, 0));
        Bounds.bad("none there", Worlds::fiveBarges, x -> x.see(0, 0, 0));
    }

    static void promise26_see_takes0To20Words() {
        Bounds.only(0, 20, Worlds::rich, (x, v) -> x.see(0, 0, v));
    }

    static void promise26_see_moreThanTheNeedIsTaken_thoughItIsNeverSaid() {
        BargeTalks x = Checks.told(Worlds.TOGETHER + "talk 0 1 1;");
        due("20 of need 1", x.see(0, 0, 20), 1);
        due("kinds", x.kinds(0), 0);
    }

    static void promise26_see_the6thIsTaken_the7thIsFull() {
        BargeTalks x = Worlds.sixTalks();
        for (int n = 1; n <= 6; n++) {
            due("seen " + n, x.see(n, 0, n), n);
        }
        due("7th", x.see(0, 0, 0), FULL);
        due("seen", x.count(0), 6);
        Bounds.changesNothing("7th", Worlds::full, y -> y.see(20, 5, 20), FULL);
    }

    static void promise26_see_aWrong7thIsBad() {
        Bounds.bad("hours", Worlds::full, x -> x.see(21, 0, 0));
        Bounds.bad("hours below", Worlds::full, x -> x.see(-1, 0, 0));
        Bounds.bad("talk", Worlds::full, x -> x.see(0, 6, 0));
        Bounds.bad("words", Worlds::full, x -> x.see(0, 0, 21));
        Bounds.bad("words below", Worlds::full, x -> x.see(0, 0, -1));
    }

    static void promise26_see_isTakenAgainWhereOneIsForgotten() {
        BargeTalks x = Worlds.full();
        x.forget(5);
        due("6th again", x.see(0, 0, 0), 6);
        due("7th", x.see(0, 0, 0), FULL);
    }

    static void promise26_see_theSameTwiceCountsTwice() {
        BargeTalks x = Worlds.sixTalks();
        due("once", x.see(0, 0, 0), 1);
        due("twice", x.see(0, 0, 0), 2);
        due("kinds", x.kinds(0), ALL_KINDS);
    }

    // ---- promise 27

    static void promise27_forget_takes0ToAsManyAsThereAre() {
        Bounds.only(0, 3, Worlds::rich, (x, v) -> x.forget(v));
        Bounds.only(0, 6, Worlds::full, (x, v) -> x.forget(v));
        Bounds.only(0, 0, BargeTalks::new, (x, v) -> x.forget(v));
    }

    static void promise27_forget_atAllChangesNothing() {
        Bounds.changesNothing("all", Worlds::rich, x -> x.forget(3), 3);
        Bounds.changesNothing("none of none", BargeTalks::new, x -> x.forget(0), 0);
    }

    static void promise27_forget_keepsTheFirstOnes() {
        // The first rules out none, the second quick and deaf, the third the others.
        BargeTalks x = Checks.told(Worlds.TOGETHER + "talk 0 1 20;");
        x.see(0, 0, 0);
        x.see(1, 0, 1);
        x.see(1, 0, 2);
        due("none is so", x.kinds(0), 0);
        due("there were", x.forget(2), 3);
        due("plain, shy", x.kinds(0), 5);
        due("there were then", x.forget(1), 2);
        due("all", x.kinds(0), ALL_KINDS);
        due("the last", x.forget(0), 1);
        due("seen", x.count(0), 0);
    }

    static void promise27_forget_whatIsForgottenComesNoMore() {
        BargeTalks x = Checks.told(Worlds.TOGETHER + "talk 0 1 20;");
        x.see(1, 0, 2);
        x.forget(0);
        x.see(0, 0, 0);
        due("kinds", x.kinds(0), ALL_KINDS);
    }

    // ---- promise 28

    static void promise28_kinds_takesABargeThatThereIs() {
        Bounds.only(0, 2, Worlds::rich, (x, v) -> x.kinds(v));
        Bounds.only(0, 4, Worlds::full, (x, v) -> x.kinds(v));
        Bounds.bad("none there", BargeTalks::new, x -> x.kinds(0));
    }

    static void promise28_kinds_changesNothing() {
        Bounds.changesNothing("kinds", Worlds::rich, x -> x.kinds(1), Worlds.rich().kinds(1));
    }

    static void promise28_kinds_allWhereNothingIsSeen() {
        for (int b = 0; b < 5; b++) {
            due("barge " + b, Worlds.sixTalks().kinds(b), ALL_KINDS);
        }
        due("no talks", Worlds.fiveBarges().kinds(4), ALL_KINDS);
    }

    private static void kinds(String barges, int n, int said, int bits) {
        BargeTalks x = Checks.told("cut 2;" + barges + "talk 0 1 20;");
        x.see(n, 0, said);
        due(barges + " behind " + n + " " + said, x.kinds(0), bits);
    }

    static void promise28_kinds_eachAlone_orNone() {
        kinds("plain 0 2;plain 0 2;", 1, 2, 1 << 1);
        kinds("plain 0 2;plain 0 2;", 1, 0, 1 << 3);
        kinds("plain 0 2;plain 0 2;", 1, 3, 0);
        // The third one is there in each first hour of two: the shy one says in each second one.
        kinds("plain 0 2;shy 0 2;plain 2 4;", 1, 1, 1);
        BargeTalks x = Checks.told("cut 2;plain 0 2;plain 0 2;plain 2 4;talk 0 1 20;");
        x.see(1, 0, 0);
        x.see(3, 0, 2);
        due("shy and deaf both say in the second hour, and are answered", x.kinds(0), (1 << 2) + (1 << 3));
        x.see(4, 0, 3);
        due("shy alone says in the fourth", x.kinds(0), 1 << 2);
    }

    static void promise28_kinds_behind0HoursIsNow() {
        kinds("plain 0 2;plain 0 2;", 0, 0, ALL_KINDS);
        kinds("plain 0 2;plain 0 2;", 0, 1, 0);
        BargeTalks x = Checks.told(Worlds.TOGETHER + "talk 0 1 20;");
        x.hours(19);
        x.see(0, 0, 19);
        due("19 said", x.kinds(0), ALL_KINDS);
    }

    static void promise28_kinds_behind20Hours() {
        BargeTalks x = Checks.told(Worlds.APART.replace("8", "4") + "talk 0 1 20;");
        Worlds.see(x, 20, 0);
        int said = x.ahead(0, 20, 0);
        due("as it is", x.kinds(0) & 1, 1);
        x.forget(0);
        x.see(20, 0, said + 1);
        due("not as it is", x.kinds(0) & 1, 0);
    }

    static void promise28_kinds_allOf6AreToBeSo() {
        BargeTalks x = Checks.told(Worlds.TOGETHER + "talk 0 1 20;");
        for (int n = 0; n < 5; n++) {
            x.see(0, 0, 0);
        }
        due("five", x.kinds(0), ALL_KINDS);
        x.see(1, 0, 2);
        due("the sixth", x.kinds(0), 2);
        x.forget(0);
        x.see(1, 0, 2);
        for (int n = 0; n < 5; n++) {
            x.see(0, 0, 0);
        }
        due("the first", x.kinds(0), 2);
    }

    static void promise28_kinds_aTalkThatIsThereNoMoreIsNeverAsSeen() {
        BargeTalks x = Worlds.sixTalks();
        x.see(0, 5, 0);
        due("there", x.kinds(0), ALL_KINDS);
        x.cut(5);
        due("no more", x.kinds(0), 0);
        due("by no pace", x.paces(0), 0);
        due("seen still", x.count(0), 1);
        x.start(0, 1, 1);
        due("one in its place", x.kinds(0), ALL_KINDS);
        x.cut(0);
        due("none there", x.kinds(4), 0);
    }

    // ---- promise 29

    static void promise29_paces_takesABargeThatThereIs() {
        Bounds.only(0, 2, Worlds::rich, (x, v) -> x.paces(v));
        Bounds.only(0, 4, Worlds::full, (x, v) -> x.paces(v));
        Bounds.bad("none there", BargeTalks::new, x -> x.paces(0));
    }

    static void promise29_paces_changesNothing() {
        Bounds.changesNothing("paces", Worlds::rich, x -> x.paces(1), Worlds.rich().paces(1));
    }

    static void promise29_paces_bits1To9WhereNothingIsSeen() {
        due("all", Worlds.sixTalks().paces(0), ALL_PACES);
        due("no talks", Worlds.fiveBarges().paces(4), ALL_PACES);
    }

    private static int pacesBehind1(String text, int said) {
        BargeTalks x = Checks.told(text);
        x.see(1, 0, said);
        return x.paces(0);
    }

    static void promise29_paces_1Alone_9Alone_none() {
        // All but the least come up to who goes from 1 to 2; the greatest alone to who goes from 8 to 9.
        due("1 alone", pacesBehind1("cut 20;plain 0 5;plain 1 1;talk 0 1 20;", 0), 1 << 1);
        due("all but 1", pacesBehind1("cut 20;plain 0 5;plain 1 1;talk 0 1 20;", 1), ALL_PACES - (1 << 1));
        due("9 alone", pacesBehind1("cut 20;plain 0 5;plain 8 1;talk 0 1 20;", 1), 1 << 9);
        due("all but 9", pacesBehind1("cut 20;plain 0 5;plain 8 1;talk 0 1 20;", 0), ALL_PACES - (1 << 9));
        due("none", pacesBehind1("cut 20;plain 0 5;plain 8 1;talk 0 1 20;", 2), 0);
    }

    static void promise29_paces_behind0And20Hours() {
        BargeTalks x = Checks.told("cut 20;plain 0 1;plain 0 1;talk 0 1 20;");
        x.see(0, 0, 0);
        due("now: any", x.paces(0), ALL_PACES);
        x.see(20, 0, 0);
        due("together for 20 hours: 1 alone has said all", x.paces(0), 1 << 1);
    }

    // ---- promise 30

    static void promise30_ask_takesABargeThatThereIs() {
        Bounds.only(0, 2, Worlds::rich, (x, v) -> x.ask(v, 0));
        Bounds.only(0, 4, Worlds::full, (x, v) -> x.ask(v, 1));
        Bounds.bad("none there", BargeTalks::new, x -> x.ask(0, 0));
    }

    static void promise30_ask_takesWhat0And1() {
        Bounds.only(0, 1, Worlds::rich, (x, v) -> x.ask(0, v));
    }

    static void promise30_ask_changesNothing() {
        for (int w = 0; w < 2; w++) {
            int what = w;
            Bounds.changesNothing("what " + w, Worlds::rich, x -> x.ask(1, what), Worlds.rich().ask(1, w));
        }
    }

    private static void none(String what, BargeTalks x, int b) {
        due(what, x.ask(b, 0), NONE);
        due(what + ", how many", x.ask(b, 1), NONE);
    }

    static void promise30_ask_noneWithoutTalks() {
        none("no talks", Worlds.fiveBarges(), 0);
    }

    static void promise30_ask_noneWhereNoPaceIsLeft() {
        BargeTalks x = Checks.told(Worlds.TOGETHER + "talk 0 1 20;");
        x.see(0, 0, 1);
        due("paces", x.paces(0), 0);
        none("none left", x, 0);
    }

    static void promise30_ask_noneWhereOnePaceIsLeft() {
        BargeTalks x = Checks.told("cut 20;plain 0 5;plain 8 1;talk 0 1 20;");
        x.see(1, 0, 1);
        due("paces", x.paces(0), 1 << 9);
        none("one left", x, 0);
    }

    static void promise30_ask_noneWhereAsManyAsNowWouldBeLeft() {
        BargeTalks x = Checks.told(Worlds.TOGETHER + "talk 0 1 5;");
        x.see(1, 0, 1);
        due("2 and 6, which are one pace on a cut of 2", x.paces(0), (1 << 2) + (1 << 6));
        none("two left", x, 0);
        none("of one that is in no talk", Checks.told(Worlds.TOGETHER + "plain 0 1;talk 0 1 5;"), 2);
    }

    static void promise30_ask_1LeftAtTheWorst() {
        BargeTalks x = Checks.told("cut 20;plain 0 1;plain 8 1;talk 0 1 20;");
        x.see(2, 0, 1);
        int paces = x.paces(0);
        due("more than one", Integer.bitCount(paces) > 1 ? 1 : 0, 1);
        leastLeft(x, 0, 1);
    }

    /** By other calls: each pace that is left is tried, and what would be heard is counted. */
    private static void leastLeft(BargeTalks x, int b, int talks) {
        int paces = x.paces(b);
        int fewest = Integer.bitCount(paces);
        int answer = NONE;
        for (int h = 0; h <= 20; h++) {
            for (int t = 0; t < talks; t++) {
                int worst = worstOf(x, b, paces, h, t);
                if (worst < fewest) {
                    fewest = worst;
                    answer = 10 * h + t;
                }
            }
        }
        due("which", x.ask(b, 0), answer);
        due("how many", x.ask(b, 1), answer == NONE ? NONE : fewest);
    }

    private static int worstOf(BargeTalks x, int b, int paces, int h, int t) {
        int[] heard = new int[21];
        int worst = 0;
        int was = x.barge(b, 2);
        for (int p = 1; p <= 9; p++) {
            if ((paces >> p & 1) == 1) {
                x.alter(b, 2, p);
                int said = x.ahead(t, h, 0);
                heard[said]++;
                worst = Math.max(worst, heard[said]);
            }
        }
        x.alter(b, 2, was);
        return worst;
    }

    static void promise30_ask_asTheOtherCallsTell() {
        leastLeft(Checks.told("cut 5;plain 0 1;shy 3 2;talk 0 1 9;"), 0, 1);
        leastLeft(Checks.told("cut 5;plain 0 1;shy 3 2;talk 0 1 9;"), 1, 1);
        BargeTalks x = Checks.told("cut 6;quick 0 1;shy 3 2;deaf 4 3;talk 0 1 9;");
        x.see(4, 0, 0);
        leastLeft(x, 0, 1);
    }

    static void promise30_ask_behind20HoursOfTheLastTalkIs205() {
        BargeTalks x = Checks.told("cut 19;plain 26 2;plain 27 1;plain 0 1;");
        for (int t = 0; t < 5; t++) {
            x.start(0, 2, 20);
        }
        x.start(0, 1, 9);
        x.see(10, 5, 1);
        x.see(7, 5, 1);
        due("paces", x.paces(1), 4 + 8 + 16);
        due("which", x.ask(1, 0), 205);
        due("how many", x.ask(1, 1), 1);
    }

    static void promise30_ask_where19AreSaid_theMostThatIsHeard() {
        BargeTalks x = Checks.told(Worlds.TOGETHER + "talk 0 1 20;");
        x.hours(19);
        due("said", x.talk(0, 3), 19);
        due("behind one hour 2 and 6 have ended it, 7 are left", x.ask(0, 0) / 10 >= 1 ? 1 : 0, 1);
        leastLeft(x, 0, 1);
    }

    static void promise30_ask_ofSeveralTheLeast() {
        BargeTalks x = Checks.told(Worlds.TOGETHER + "talk 0 1 5;talk 0 1 5;talk 1 0 5;");
        due("the first talk, though all tell as much", x.ask(0, 0), 30);
        due("how many", x.ask(0, 1), 5);
    }

    // ---- promise 31

    private static final String TWO = "cut 5;plain 0 1;quick 8 1;talk 0 1 1;talk 1 0 3;";

    static void promise31_drift_takes1To100Hours() {
        Bounds.only(1, 100, Worlds::rich, (x, v) -> x.drift(1, v, 0));
    }

    static void promise31_drift_takesWhat0And1() {
        Bounds.only(0, 1, Worlds::rich, (x, v) -> x.drift(1, 5, v));
    }

    static void promise31_drift_withoutBargesIsState_aWrongNumberIsBad() {
        Bounds.changesNothing("no barges", BargeTalks::new, x -> x.drift(1, 1, 0), STATE);
        Bounds.changesNothing("no barges", BargeTalks::new, x -> x.drift(1, 100, 1), STATE);
        Bounds.bad("0 hours", BargeTalks::new, x -> x.drift(1, 0, 0));
        Bounds.bad("101 hours", BargeTalks::new, x -> x.drift(1, 101, 0));
        Bounds.bad("what", BargeTalks::new, x -> x.drift(1, 1, 2));
        Bounds.bad("what below", BargeTalks::new, x -> x.drift(1, 1, -1));
    }

    static void promise31_drift_changesNothing() {
        for (int w = 0; w < 2; w++) {
            int what = w;
            Bounds.changesNothing("what " + w, Worlds::rich, x -> x.drift(7, 100, what), Worlds.rich().drift(7, 100, w));
        }
    }

    /** By itself: the same by hand, an hour after the other; what ends and what is said. */
    private static void byHand(String text, int seed, int n) {
        BargeTalks x = Checks.told(text);
        int barges = x.rule(0);
        long turned = seed;
        int ended = 0;
        int words = 0;
        for (int h = 0; h < n; h++) {
            turned = turned * 1103515245L + 12345L & 0xffffffffL;
            int got = (int) (turned >> 16 & 0x7fff);
            x.alter(got % barges, 2, got / 8 % 9 + 1);
            words += x.runs(1, 2);
            ended += x.hours(1);
        }
        BargeTalks asked = Checks.told(text);
        due("ended by " + seed + " in " + n, asked.drift(seed, n, 0), ended);
        due("words by " + seed + " in " + n, asked.drift(seed, n, 1), words);
    }

    static void promise31_drift_anySeed() {
        for (int seed : new int[] {Integer.MIN_VALUE, Integer.MIN_VALUE + 1, -65536, -1, 0, 1, 65535, Integer.MAX_VALUE}) {
            byHand(TWO, seed, 1);
            byHand(TWO, seed, 100);
        }
    }

    static void promise31_drift_oneBarge_fiveBarges() {
        byHand("plain 0 1;", 5, 100);
        byHand(Worlds.FIVE + "talk 0 1 2;talk 3 4 1;", 5, 100);
        due("one: no talk, none ends", Checks.told("plain 0 1;").drift(5, 100, 0), 0);
    }

    static void promise31_drift_paces1To9() {
        int[] times = new int[10];
        for (int seed = 0; seed < 200; seed++) {
            int got = (seed * 1103515245 + 12345) >> 16 & 0x7fff;
            int pace = got % 2 == 0 ? got / 8 % 9 + 1 : 5;
            times[pace]++;
            BargeTalks nine = Checks.told("cut 20;plain 0 5;plain 8 1;talk 0 1 1;");
            due("the greatest comes up, seed " + seed, got % 2 == 1 ? 0 : nine.drift(seed, 1, 0), pace == 9 ? 1 : 0);
            BargeTalks one = Checks.told("cut 20;plain 0 5;plain 1 1;talk 0 1 1;");
            due("the least does not, seed " + seed, got % 2 == 1 ? 1 : one.drift(seed, 1, 0), pace == 1 ? 0 : 1);
        }
        due("1 was tried", times[1] > 0 ? 1 : 0, 1);
        due("9 was tried", times[9] > 0 ? 1 : 0, 1);
    }

    static void promise31_drift_atTheLastHourToo_alsoBeyond999() {
        BargeTalks x = Checks.told("cut 2;plain 0 4;plain 0 4;talk 0 1 1;");
        for (int i = 0; i < 99; i++) {
            x.hours(100);
        }
        x.hours(99);
        due("ended", x.talk(0, 5), 999);
        BargeTalks twin = Checks.told("cut 2;plain 0 4;plain 0 4;talk 0 1 1;");
        due("as at first", x.drift(3, 100, 0), twin.drift(3, 100, 0));
        due("some end", x.drift(3, 100, 0) > 0 ? 1 : 0, 1);
    }
}
