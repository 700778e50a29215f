/** Boundaries of promises 1 to 8: a new object, the tape, the text and its faults, what is told of all. */
public final class BoundsOfTextTest {
    private static final int BAD = -1, STATE = -2, FULL = -3, NONE = -4;
    private static final int MIN = Integer.MIN_VALUE, MAX = Integer.MAX_VALUE;
    private static final String[] KINDS = {"plain", "quick", "shy", "deaf"};
    private static final String SIX = "talk 0 1 1;talk 0 1 1;talk 0 1 1;talk 0 1 1;talk 0 1 1;talk 0 1 1;";

    public static void main(String[] args) throws ReflectiveOperationException {
        Bounds.runAll(BoundsOfTextTest.class, 1, 8);
    }

    private static void due(String what, long got, long want) {
        Bounds.due(what, got, want);
    }

    // ---- promise 1

    static void promise1_newObject_noBarges_noTalks() {
        BargeTalks x = new BargeTalks();
        due("barges", x.rule(0), 0);
        due("talks", x.rule(1), 0);
        for (int w = 0; w <= 8; w++) {
            due("barge 0", x.barge(0, w), BAD);
            due("talk 0", x.talk(0, w), BAD);
        }
        due("paces of all", x.count(4), 0);
        due("needs of all", x.count(5), 0);
    }

    static void promise1_newObject_sheetsOfNothing() {
        for (int k = 0; k < 4; k++) {
            for (int lane = 0; lane < 3; lane++) {
                BargeTalks x = new BargeTalks();
                due("lay", x.lay(k, 0, 0), -11);
                due("read", x.read(k, lane, 0, 1), 0);
                due("torn: null", x.torn(), 1);
            }
        }
        due("cells of sheet 0", new BargeTalks().count(3), NONE);
    }

    static void promise1_newObject_asAtFirst() {
        BargeTalks x = new BargeTalks();
        int[] rules = {0, 0, 0, 10, 40, 0, 0, 0};
        for (int w = 0; w < 8; w++) {
            due("rule " + w, x.rule(w), rules[w]);
        }
        due("nothing seen", x.count(0), 0);
        due("no images", x.count(1), 0);
        due("no image 0", x.back(0), STATE);
        due("no image 1", x.back(1), STATE);
        due("nothing on the tape", x.count(2), 0);
        due("fault", x.fault(), 0);
        due("torn", x.torn(), 0);
    }

    static void promise1_newObject_callsOfABargeAreBad() {
        Bounds.bad("alter", BargeTalks::new, x -> x.alter(0, 0, 0));
        Bounds.bad("start", BargeTalks::new, x -> x.start(0, 1, 1));
        Bounds.bad("at", BargeTalks::new, x -> x.at(0, 0));
        Bounds.bad("when", BargeTalks::new, x -> x.when(0, 1));
        Bounds.bad("best", BargeTalks::new, x -> x.best(0, 1, 0, 0));
        Bounds.bad("kind", BargeTalks::new, x -> x.kind(0, 0, 0));
        Bounds.bad("kinds", BargeTalks::new, x -> x.kinds(0));
        Bounds.bad("paces", BargeTalks::new, x -> x.paces(0));
        Bounds.bad("ask", BargeTalks::new, x -> x.ask(0, 0));
    }

    static void promise1_newObject_callsOfATalkAreBad() {
        Bounds.bad("say", BargeTalks::new, x -> x.say(0));
        Bounds.bad("ahead", BargeTalks::new, x -> x.ahead(0, 0, 0));
        Bounds.bad("luck", BargeTalks::new, x -> x.luck(0, 0, 0, 0));
        Bounds.bad("see", BargeTalks::new, x -> x.see(0, 0, 0));
    }

    static void promise1_newObject_standsApartFromOthers() {
        BargeTalks x = Worlds.full();
        BargeTalks y = new BargeTalks();
        due("barges", y.rule(0), 0);
        due("cells", y.count(3), NONE);
        due("barges of the other", x.rule(0), 5);
    }

    // ---- promise 2

    static void promise2_feed_takesBytes0To127() {
        Bounds.only(0, 127, Worlds::rich, (x, v) -> x.feed(v));
    }

    static void promise2_feed_tellsHowManyThereAre_1To160() {
        BargeTalks x = new BargeTalks();
        for (int n = 1; n <= 160; n++) {
            due("byte " + n, x.feed(n % 2 == 0 ? 0 : 127), n);
        }
        due("bytes", x.count(2), 160);
    }

    static void promise2_feed_the161stIsFull() {
        Bounds.changesNothing("161st", Worlds::full, x -> x.feed(59), FULL);
    }

    static void promise2_feed_aWrongByteOnAFullTapeIsBad() {
        Bounds.bad("-1", Worlds::full, x -> x.feed(-1));
        Bounds.bad("128", Worlds::full, x -> x.feed(128));
    }

    static void promise2_feed_isTakenAgainWhereTheTapeHasLostOne() {
        BargeTalks x = Worlds.full();
        x.end(159);
        due("160th again", x.feed(59), 160);
        due("161st", x.feed(59), FULL);
        x = Worlds.full();
        x.text();
        due("first", x.feed(59), 1);
    }

    // ---- promise 3

    static void promise3_end_takes0ToAsManyAsThereAre() {
        int bytes = Worlds.rich().count(2);
        Bounds.only(0, bytes, Worlds::rich, (x, v) -> x.end(v));
    }

    static void promise3_end_ofAnEmptyTapeTakes0Alone() {
        Bounds.only(0, 0, BargeTalks::new, (x, v) -> x.end(v));
        due("it had", new BargeTalks().end(0), 0);
    }

    static void promise3_end_ofAFullTapeTakes160() {
        BargeTalks x = Worlds.full();
        due("161", x.end(161), BAD);
        due("160", x.end(160), 160);
        due("159", x.end(159), 160);
        due("160 then", x.end(160), BAD);
        due("bytes", x.count(2), 159);
    }

    static void promise3_end_atAllChangesNothing() {
        int bytes = Worlds.rich().count(2);
        Bounds.changesNothing("all of them", Worlds::rich, x -> x.end(bytes), bytes);
    }

    static void promise3_end_keepsTheFirstOnes() {
        BargeTalks x = new BargeTalks();
        Checks.feed(x, "cut 2;cut 3;");
        due("it had", x.end(6), 12);
        due("lines", x.text(), 1);
        due("cut", x.rule(3), 2);
    }

    static void promise3_end_at0LeavesNothingToRead() {
        BargeTalks x = new BargeTalks();
        Checks.feed(x, "?");
        due("it had", x.end(0), 1);
        due("lines", x.text(), 0);
    }

    static void promise3_end_whatIsLeftOutComesNoMore() {
        BargeTalks x = new BargeTalks();
        Checks.feed(x, "cut 20;");
        x.end(5);
        x.feed(';');
        due("lines", x.text(), 1);
        due("cut", x.rule(3), 2);
    }

    // ---- promise 4

    static void promise4_text_ofAnEmptyTapeHas0Lines_andAllIsAsAtFirst() {
        BargeTalks x = Worlds.rich();
        x.end(0);
        due("lines", x.text(), 0);
        int[] rules = {0, 0, 0, 10, 40, 0, 0, 0};
        for (int w = 0; w < 8; w++) {
            due("rule " + w, x.rule(w), rules[w]);
        }
    }

    static void promise4_text_ofBlanksHas0Lines() {
        for (int n : new int[] {1, 159, 160}) {
            BargeTalks x = new BargeTalks();
            Checks.feed(x, " ".repeat(n));
            due(n + " blanks", x.text(), 0);
            due("fault", x.fault(), 0);
        }
    }

    static void promise4_text_hasAtMost13Lines_oneOfEachAndAsManyAsThereMayBe() {
        BargeTalks x = new BargeTalks();
        Checks.feed(x, "cut2;memory1;shy0 1;shy0 1;shy0 1;shy0 1;shy0 1;" + SIX);
        due("lines", x.text(), 13);
        due("barges", x.rule(0), 5);
        due("talks", x.rule(1), 6);
    }

    static void promise4_text_ofAFullTapeIsReadToItsLastByte() {
        BargeTalks x = new BargeTalks();
        Checks.feed(x, " ".repeat(154) + "cut 2;");
        due("bytes", x.count(2), 160);
        due("lines", x.text(), 1);
        due("cut", x.rule(3), 2);
    }

    static void promise4_text_tapeIsEmptyThen_takenOrNot() {
        for (String text : new String[] {"", "cut 2;", "cut 1;", "?"}) {
            BargeTalks x = new BargeTalks();
            Checks.feed(x, text);
            x.text();
            due("bytes behind " + text, x.count(2), 0);
            due("read again", x.text(), 0);
        }
    }

    static void promise4_text_faultAtTheFirstPlaceIsMinus10() {
        BargeTalks x = new BargeTalks();
        x.feed('?');
        due("text", x.text(), -10);
    }

    static void promise4_text_faultAtTheLastBytesPlaceIsMinus169() {
        BargeTalks x = new BargeTalks();
        Checks.feed(x, " ".repeat(159) + "?");
        due("text", x.text(), -169);
    }

    static void promise4_text_faultAtTheLengthOfAFullTapeIsMinus170() {
        BargeTalks x = new BargeTalks();
        Checks.feed(x, " ".repeat(157) + "cut");
        due("text", x.text(), -170);
        due("fault", x.fault(), 2);
    }

    /** Behind a text at fault nothing is changed but THE TAPE and fault(): these are made alike on the twin. */
    private static void leavesAll(String text, int place, String alike) {
        Bounds.changesNothing("faulty " + text, () -> {
            BargeTalks x = Worlds.rich();
            x.end(0);
            Checks.feed(x, alike);
            x.text();
            return x;
        }, x -> {
            Checks.feed(x, text);
            return x.text();
        }, -10 - place);
    }

    static void promise4_text_atFault_thatWhichWasToldStays() {
        String whole = "cut 9;memory 8;plain 1 1;deaf 2 2;talk 0 1 7;";
        leavesAll(whole + "?", 45, "?");
        leavesAll(whole + ";", 45, ";");
        leavesAll(whole + "shy 0 1", 52, ";");
        leavesAll(whole + "shy 0 0;", 51, "cut 1;");
        leavesAll(whole + "cut 9;", 45, "talk 0 0 1;");
        leavesAll(whole + "shy 0 1;shy 0 1;shy 0 1;shy 0 1;", 69, Worlds.FIVE + "shy");
        leavesAll(whole + "talk 1 2 3;", 56, "talk 0 1 1;");
        leavesAll("?" + whole, 0, "?");
    }

    static void promise4_text_taken_nothingIsSeen_imagesAreGone() {
        BargeTalks x = Worlds.rich();
        due("seen ahead", x.count(0), 3);
        due("images ahead", x.count(1), 1);
        due("lines", x.text(), 3);
        due("seen", x.count(0), 0);
        due("images", x.count(1), 0);
        due("no image 0", x.back(0), STATE);
        due("no image 1", x.back(1), STATE);
        due("kinds", x.kinds(0), 15);
        due("keep finds none", x.keep(1), 0);
    }

    static void promise4_text_taken_sheetsAndTornStay() {
        BargeTalks x = Worlds.rich();
        due("lines", x.text(), 3);
        due("cells", x.count(3), 6);
        due("torn", x.torn(), 2);
    }

    static void promise4_text_taken_barges_talks_hourAreInPlaceOfWhatThereWas() {
        BargeTalks x = Worlds.rich();
        x.text();
        int[] rules = {1, 0, 0, 3, 7, 0, 0, 0};
        for (int w = 0; w < 8; w++) {
            due("rule " + w, x.rule(w), rules[w]);
        }
        int[] barge = {2, 3, 9, 3, 0};
        for (int w = 0; w < 5; w++) {
            due("barge " + w, x.barge(0, w), barge[w]);
        }
    }

    static void promise4_text_taken_talksBeginAnew() {
        BargeTalks x = Checks.told("memory 1;cut 4;plain 0 8;deaf 4 8;talk 0 1 20;talk 0 1 1;");
        x.say(0);
        x.hours(2);
        x.say(0);
        x.say(0);
        x.say(1);
        due("lost", x.talk(0, 6), 1);
        due("nod", x.talk(0, 8), 1);
        Checks.feed(x, "plain 0 1;plain 1 1;talk 1 0 2;talk 1 0 2;");
        x.text();
        for (int t = 0; t < 2; t++) {
            int[] due = {1, 0, 2, 0, 0, 0, 0, 1, 0};
            for (int w = 0; w < 9; w++) {
                due("talk " + t + " " + w, x.talk(t, w), due[w]);
            }
        }
    }

    // ---- promise 5: the faults, each by its place

    private static void fault(String text, int fault, int place) {
        BargeTalks x = new BargeTalks();
        Checks.feed(x, text);
        due("text of " + text, x.text(), -10 - place);
        due("fault of " + text, x.fault(), fault);
    }

    private static void taken(String text, int lines) {
        BargeTalks x = new BargeTalks();
        Checks.feed(x, text);
        due("text of " + text, x.text(), lines);
        due("fault of " + text, x.fault(), 0);
    }

    static void promise5_fault_is0AtFirst_andBehindATextThatIsTaken() {
        BargeTalks x = new BargeTalks();
        due("at first", x.fault(), 0);
        x.feed('?');
        due("ahead of text", x.fault(), 0);
        x.text();
        due("behind one at fault", x.fault(), 1);
        x.feed('?');
        x.feed(-1);
        x.end(9);
        due("of the latest text, whatever was fed", x.fault(), 1);
        x.end(0);
        x.text();
        due("behind one that is taken", x.fault(), 0);
    }

    static void promise5_fault_ofTheLatestText() {
        BargeTalks x = new BargeTalks();
        String[] texts = {"?", ";", "cut 1;", "cut 2;cut 2;", Worlds.FIVE + "shy", "talk 0 1 1;", ""};
        int[] faults = {1, 2, 3, 4, 5, 6, 0};
        for (int i = 0; i < texts.length; i++) {
            Checks.feed(x, texts[i]);
            x.text();
            due("of " + texts[i], x.fault(), faults[i]);
        }
    }

    static void promise5_fault1_eachByteByItself() {
        for (int c = 0; c < 128; c++) {
            BargeTalks x = new BargeTalks();
            x.feed(c);
            boolean blank = c == 32;
            boolean token = c >= 'a' && c <= 'z' || c >= '0' && c <= '9' || c == ';';
            due("text of byte " + c, x.text(), blank ? 0 : -10);
            due("fault of byte " + c, x.fault(), blank ? 0 : token ? 2 : 1);
        }
    }

    static void promise5_fault1_noTokenWhereverOneIsRead() {
        for (char c : new char[] {0, 9, 10, 31, '!', '-', '/', ':', '<', '@', 'A', 'Z', '[', '`', '{', 127}) {
            fault(c + "cut 2;", 1, 0);
            fault("cut" + c + "2;", 1, 3);
            fault("cut 2" + c + ";", 1, 5);
            fault("cut 2;" + c, 1, 6);
            fault("plain 0" + c + "1;", 1, 7);
            fault("talk 0 1" + c + "1;", 1, 8);
        }
    }

    static void promise5_fault1_aNumberOfThreeFigures_itsFirstByte() {
        taken("cut 2;", 1);
        taken("cut 02;", 1);
        fault("cut 002;", 1, 4);
        fault("cut 0000000000002;", 1, 4);
        fault("plain 0 001;", 1, 8);
        fault("plain 000 1;", 1, 6);
        fault("talk 0 1 020;", 1, 9);
        fault("000", 1, 0);
        fault("cut 2 100;", 1, 6);
    }

    static void promise5_tokens_areAsLongAsMayBe() {
        fault("cutmemory 2;", 2, 0);
        fault("cuts 2;", 2, 0);
        fault("plain 01;", 2, 8);
        fault("cu t 2;", 2, 0);
        fault("cut 1 0;", 3, 4);
        taken("cut 10;", 1);
    }

    static void promise5_tokens_blanksBetweenMayBeNoneOrMany() {
        fault("cut2;memory3;plain4 5;talk6", 3, 26);
        taken("cut2;memory3;plain4 5;", 3);
        taken("  cut  2  ;  memory  3  ;  ", 2);
    }

    /** A line that is cut short behind each of its tokens: the end can not stand there. */
    private static void shortened(String ahead, String... tokens) {
        String text = ahead;
        for (int i = 0; i < tokens.length; i++) {
            text = text + tokens[i];
            if (i < tokens.length - 1) {
                fault(text, 2, text.length());
                fault(text + "   ", 2, text.length() + 3);
                fault(text + (tokens[i + 1].equals(";") ? " 1" : ";"), 2, text.length() + (tokens[i + 1].equals(";") ? 1 : 0));
                fault(text + " cut", 2, text.length() + 1);
            }
        }
        fault(text + ";", 2, text.length());
        fault(text + "1", 2, text.length());
        fault(text + "x", 2, text.length());
    }

    static void promise5_fault2_aTokenThatCanNotStandThere_orTheEnd() {
        shortened("", "cut", " 2", ";");
        shortened("", "memory", " 2", ";");
        for (String kind : KINDS) {
            shortened("", kind, " 2", " 3", ";");
        }
        shortened("plain 0 1;plain 0 1;", "talk", " 0", " 1", " 1", ";");
    }

    static void promise5_fault2_aNameThatBeginsNoLine() {
        for (String name : new String[] {"a", "z", "cu", "cutt", "memor", "memorys", "plai", "plains", "quic", "quicks", "sh",
            "shyy", "dea", "deaff", "tal", "talks", "text", "line", "n", "duck", "qlain", "but"}) {
            fault(name + " 2 2;", 2, 0);
            fault("cut 2; " + name, 2, 7);
        }
    }

    static void promise5_fault3_aNumberOutOfItsBounds_andTheOnesJustInside() {
        fault("cut 1;", 3, 4);
        taken("cut 2;", 1);
        taken("cut 20;", 1);
        fault("cut 21;", 3, 4);
        fault("memory 0;", 3, 7);
        taken("memory 1;", 1);
        taken("memory 99;", 1);
        for (String kind : KINDS) {
            int n = kind.length() + 1;
            taken(kind + " 0 1;", 1);
            taken(kind + " 39 9;", 1);
            fault(kind + " 40 1;", 3, n);
            fault(kind + " 0 0;", 3, n + 2);
            fault(kind + " 0 10;", 3, n + 2);
            fault(kind + " 99 99;", 3, n);
        }
    }

    static void promise5_fault3_numbersOfATalk() {
        taken(Worlds.FIVE + "talk 0 4 1;", 6);
        taken(Worlds.FIVE + "talk 4 0 20;", 6);
        fault("talk 5 0 1;", 3, 5);
        fault("talk 0 5 1;", 3, 7);
        fault("talk 0 1 0;", 3, 9);
        fault("talk 0 1 21;", 3, 9);
        fault("talk 5 5 0;", 3, 5);
    }

    static void promise5_fault4_cutForTheSecondTime_itsName() {
        fault("cut 2;cut 2;", 4, 6);
        fault("cut 2; memory 2; cut", 4, 17);
        fault("cut 2;cut 99;", 4, 6);
        fault("cut 2;cut?", 4, 6);
    }

    static void promise5_fault4_memoryForTheSecondTime_itsName() {
        fault("memory 2;memory 2;", 4, 9);
        fault("memory 2; cut 2; memory", 4, 17);
        fault("memory 2;memory 0;", 4, 9);
    }

    static void promise5_fault4_aSecondBargeThatIsTheFirstOne() {
        for (int b = 0; b < 5; b++) {
            fault("talk " + b + " " + b + " 1;", 4, 7);
            fault("talk " + b + " 0" + b + " 0;", 4, 7);
            fault("talk 0" + b + " " + b + "?", 4, 8);
        }
    }

    static void promise5_fault5_theSixthBarge_itsName() {
        for (String kind : KINDS) {
            fault(Worlds.FIVE + kind + " 0 1;", 5, Worlds.FIVE.length());
            fault(Worlds.FIVE + kind + " 99 ?", 5, Worlds.FIVE.length());
            taken(Worlds.FIVE.substring(10) + kind + " 0 1;", 5);
        }
    }

    static void promise5_fault5_theSeventhTalk_itsName() {
        String two = "shy 0 1;shy 0 1;";
        taken(two + SIX, 8);
        fault(two + SIX + "talk 0 1 1;", 5, two.length() + SIX.length());
        fault(two + SIX + "talk", 5, two.length() + SIX.length());
        fault(SIX + "talk 9 9 99;", 5, SIX.length());
    }

    static void promise5_fault6_aBargeThatThereIsNot_atTheLength() {
        fault("talk 0 1 1;", 6, 11);
        fault("plain 0 1;talk 0 1 1;", 6, 21);
        fault("plain 0 1;talk 1 0 1;   ", 6, 24);
        taken("plain 0 1;plain 0 1;talk 1 0 1;", 3);
        fault("plain 0 1;plain 0 1;talk 1 2 1;", 6, 31);
        fault("plain 0 1;plain 0 1;talk 2 1 1;", 6, 31);
        fault("shy 0 1;shy 0 1;shy 0 1;shy 0 1;talk 4 0 1;", 6, 43);
    }

    static void promise5_fault6_aBargeMayBeToldBehindItsTalk() {
        taken("talk 0 1 1;plain 0 1;plain 0 1;", 3);
        fault("talk 0 1 1;plain 0 1;", 6, 21);
    }

    static void promise5_fault6_onlyBehindAll_otherFaultsAreMetFirst() {
        fault("talk 0 1 1;?", 1, 11);
        fault("talk 0 1 1;;", 2, 11);
        fault("talk 0 1 1;cut 1;", 3, 15);
        fault("talk 0 1 1;talk 1 1 1;", 4, 18);
        fault(SIX + "talk", 5, SIX.length());
    }

    static void promise5_fault6_ofTheLastOfSixTalks_atTheLengthOfAFullTape() {
        String text = Worlds.FIVE.substring(0, 37) + SIX.substring(11) + "talk 0 4 1;";
        text = text + " ".repeat(160 - text.length());
        fault(text, 6, 160);
    }

    static void promise5_fault_theFirstMetAsItIsRead() {
        fault("cut 1?", 3, 4);
        fault("cut 1 x", 3, 4);
        fault("plain 40 ?", 3, 6);
        fault("plain 0 ?", 1, 8);
        fault("talk 0 0 ?", 4, 7);
        fault("talk 0 1 0 ?", 3, 9);
        fault("nobody ?", 2, 0);
        fault("5 ?", 2, 0);
        fault("cut ? cut", 1, 4);
    }

    // ---- promise 6

    static void promise6_rule_takes0To7() {
        Bounds.only(0, 7, Worlds::rich, (x, v) -> x.rule(v));
        Bounds.only(0, 7, BargeTalks::new, (x, v) -> x.rule(v));
    }

    static void promise6_rule_changesNothing() {
        for (int w = 0; w <= 7; w++) {
            int what = w;
            Bounds.changesNothing("rule " + w, Worlds::rich, x -> x.rule(what), Worlds.rich().rule(w));
        }
    }

    static void promise6_rule0And1_atMost5Barges6Talks() {
        due("barges", Worlds.full().rule(0), 5);
        due("talks", Worlds.full().rule(1), 6);
    }

    static void promise6_rule2_hourIs9999AtMost() {
        BargeTalks x = Worlds.lastHour();
        due("hour", x.rule(2), 9999);
        x.hours(1);
        due("hour still", x.rule(2), 9999);
    }

    static void promise6_rule3And4_bounds() {
        due("cut 2", Checks.told("cut 2;").rule(3), 2);
        due("cut 20", Checks.told("cut 20;").rule(3), 20);
        due("memory 1", Checks.told("memory 1;").rule(4), 1);
        due("memory 99", Checks.told("memory 99;").rule(4), 99);
    }

    static void promise6_rule5_isSummedOver6TalksOf999() {
        BargeTalks x = Checks.told(Worlds.TOGETHER + SIX);
        due("none", x.rule(5), 0);
        for (int i = 0; i < 10; i++) {
            x.hours(100);
        }
        due("ended of all", x.rule(5), 6 * 999);
        x.cut(1);
        due("of one", x.rule(5), 999);
        x.cut(0);
        due("of none", x.rule(5), 0);
    }

    static void promise6_rule6_isSummedOver6TalksOf999() {
        BargeTalks x = Checks.told("cut 3;memory 1;plain 0 1;plain 3 1;" + SIX.replace("1;", "9;"));
        due("none", x.rule(6), 0);
        for (int i = 0; i < 31; i++) {
            x.hours(100);
        }
        due("lost of all", x.rule(6), 6 * 999);
        x.cut(0);
        due("of none", x.rule(6), 0);
    }

    static void promise6_rule7_is0WithoutBarges_andWithOne() {
        due("none", new BargeTalks().rule(7), 0);
        due("one", Checks.told("plain 0 1;").rule(7), 0);
        due("two that meet", Worlds.together().rule(7), 1);
    }

    static void promise6_rule7_is10WhereAllFiveMeet() {
        due("all", Checks.told("cut 2;shy 0 1;shy 0 1;shy 0 1;shy 0 1;shy 0 1;").rule(7), 10);
        due("all but one", Checks.told("cut 2;shy 0 1;shy 0 1;shy 0 1;shy 0 1;shy 2 4;").rule(7), 6);
    }

    static void promise6_rule7_ofThisHour_whichIsTheOneToCome() {
        BargeTalks x = Checks.told("cut 3;plain 0 1;plain 3 1;");
        int[] pairs = {0, 1, 0, 0, 1, 0, 0};
        for (int h = 0; h < pairs.length; h++) {
            due("in hour " + h, x.rule(7), pairs[h]);
            x.hours(1);
        }
    }

    // ---- promise 7

    static void promise7_barge_takesABargeThatThereIs() {
        Bounds.only(0, 2, Worlds::rich, (x, v) -> x.barge(v, 0));
        Bounds.only(0, 4, Worlds::full, (x, v) -> x.barge(v, 4));
        Bounds.bad("none there", BargeTalks::new, x -> x.barge(0, 0));
    }

    static void promise7_barge_takesWhat0To4() {
        Bounds.only(0, 4, Worlds::rich, (x, v) -> x.barge(2, v));
    }

    static void promise7_barge_changesNothing() {
        for (int w = 0; w <= 4; w++) {
            int what = w;
            Bounds.changesNothing("barge " + w, Worlds::rich, x -> x.barge(1, what), Worlds.rich().barge(1, w));
        }
    }

    static void promise7_barge_leastAndMostOfAll() {
        BargeTalks x = Checks.told("cut 20;plain 0 1;deaf 39 9;shy 20 5;quick 21 5;");
        int[][] due = {{0, 0, 1, 0}, {3, 39, 9, 1}, {2, 20, 5, 20}, {1, 21, 5, 19}};
        for (int b = 0; b < 4; b++) {
            for (int w = 0; w < 4; w++) {
                due("barge " + b + " " + w, x.barge(b, w), due[b][w]);
            }
        }
    }

    static void promise7_barge4_meets0To4Others() {
        due("alone", Checks.told("plain 0 1;").barge(0, 4), 0);
        BargeTalks all = Checks.told("cut 2;shy 0 1;shy 0 1;shy 0 1;shy 0 1;shy 0 1;");
        for (int b = 0; b < 5; b++) {
            due("others", all.barge(b, 4), 4);
        }
    }

    // ---- promise 8

    static void promise8_talk_takesATalkThatThereIs() {
        Bounds.only(0, 2, Worlds::rich, (x, v) -> x.talk(v, 0));
        Bounds.only(0, 5, Worlds::full, (x, v) -> x.talk(v, 8));
        Bounds.bad("none there", Worlds::fiveBarges, x -> x.talk(0, 0));
    }

    static void promise8_talk_takesWhat0To8() {
        Bounds.only(0, 8, Worlds::rich, (x, v) -> x.talk(2, v));
    }

    static void promise8_talk_changesNothing() {
        for (int w = 0; w <= 8; w++) {
            int what = w;
            Bounds.changesNothing("talk " + w, Worlds::rich, x -> x.talk(1, what), Worlds.rich().talk(1, w));
        }
    }

    static void promise8_talk_oneThatIsCutIsNoMore() {
        BargeTalks x = Worlds.rich();
        x.cut(2);
        due("the last", x.talk(1, 0), 1);
        due("gone", x.talk(2, 0), BAD);
    }

    static void promise8_talk_leastAndMostNeed_said0To19() {
        BargeTalks x = Checks.told(Worlds.TOGETHER + "talk 0 1 1;talk 1 0 20;");
        due("need 1", x.talk(0, 2), 1);
        due("need 20", x.talk(1, 2), 20);
        due("said 0", x.talk(1, 3), 0);
        x.hours(19);
        due("said 19", x.talk(1, 3), 19);
        due("said of need 1", x.talk(0, 3), 0);
    }

    static void promise8_talk_since99AtMost() {
        BargeTalks x = Checks.told("memory 99;" + Worlds.APART + "talk 0 1 20;");
        x.say(0);
        x.hours(99);
        due("since", x.talk(0, 4), 99);
        x.hours(1);
        due("since then", x.talk(0, 4), 0);
    }

    static void promise8_talk7_theBargeWhoseTurnItIs() {
        BargeTalks x = Checks.told(Worlds.FIVE + "talk 4 3 20;");
        due("the first one", x.talk(0, 7), 4);
        x.say(0);
        due("the second one", x.talk(0, 7), 3);
    }

    static void promise8_talk8_nod0Or1() {
        BargeTalks x = Checks.told("deaf 0 1;plain 0 2;talk 0 1 20;");
        due("none", x.talk(0, 8), 0);
        x.say(0);
        due("one", x.talk(0, 8), 1);
        x.say(0);
        due("none again", x.talk(0, 8), 0);
    }

    static void promise8_talk_farNumbersAreBad() {
        for (int far : new int[] {MIN, MAX}) {
            due("talk", Worlds.full().talk(far, 0), BAD);
            due("what", Worlds.full().talk(0, far), BAD);
            due("barge", Worlds.full().barge(far, far), BAD);
        }
    }
}
