/** Promises 1 to 8: a new object, THE TAPE, the text and its FAULTS, what is told of all. */
public final class TextTest {
    private static final int BAD = -1, FULL = -3, NONE = -4;

    public static void main(String[] args) {
        aNewObject();
        tapeIsFedAndCut();
        tapeIsReadAsFarAsItGoes();
        fullTapeIsRead();
        textTellsAll();
        textStandsInPlaceOfAll();
        faultsOfTokens();
        faultsOfOrder();
        faultsOfBounds();
        faultsOfRepeats();
        faultsOfNumbersOfThings();
        firstFaultCounts();
        faultChangesNothing();
        rules();
        barges();
        talks();
        Checks.finish();
    }

    private static void aNewObject() {
        BargeTalks x = new BargeTalks();
        int[] rules = {0, 0, 0, 10, 40, 0, 0, 0};
        for (int w = 0; w < rules.length; w++) {
            Checks.due("new: rule " + w, x.rule(w), rules[w]);
        }
        int[] counts = {0, 0, 0, NONE, 0, 0};
        for (int w = 0; w < counts.length; w++) {
            Checks.due("new: count " + w, x.count(w), counts[w]);
        }
        Checks.due("new: fault", x.fault(), 0);
        Checks.due("new: torn", x.torn(), 0);
        Checks.due("new: barge", x.barge(0, 0), BAD);
        Checks.due("new: talk", x.talk(0, 0), BAD);
        for (int k = 0; k < 4; k++) {
            Checks.due("new: lay on nothing", x.lay(k, 0, 0), -11);
        }
    }

    private static void tapeIsFedAndCut() {
        BargeTalks x = new BargeTalks();
        Checks.due("feed -1", x.feed(-1), BAD);
        Checks.due("feed 128", x.feed(128), BAD);
        Checks.due("feed 0", x.feed(0), 1);
        Checks.due("feed 127", x.feed(127), 2);
        for (int i = 3; i <= 160; i++) {
            Checks.due("feed " + i, x.feed(32), i);
        }
        Checks.due("feed the 161st", x.feed(32), FULL);
        Checks.due("feed wrong when full", x.feed(128), BAD);
        Checks.due("bytes", x.count(2), 160);
        Checks.due("end 161", x.end(161), BAD);
        Checks.due("end -1", x.end(-1), BAD);
        Checks.due("end 160", x.end(160), 160);
        Checks.due("end 2", x.end(2), 160);
        Checks.due("end 3", x.end(3), BAD);
        Checks.due("feed behind", x.feed(33), 3);
        Checks.due("end 0", x.end(0), 3);
        Checks.due("end 0 again", x.end(0), 0);
    }

    private static void tapeIsReadAsFarAsItGoes() {
        BargeTalks x = new BargeTalks();
        Checks.feed(x, "cut 7;zzz");
        Checks.due("end keeps the first", x.end(6), 9);
        Checks.due("text of what is kept", x.text(), 1);
        Checks.due("cut", x.rule(3), 7);
        Checks.due("tape is empty then", x.count(2), 0);
        Checks.feed(x, "cut 22;");
        x.end(5);
        Checks.due("what is cut off is not read", x.text(), -15);
        Checks.feed(x, "memory 7");
        x.end(6);
        Checks.feed(x, " ");
        x.end(6);
        Checks.due("nor are blanks", x.text(), -16);
    }

    private static void fullTapeIsRead() {
        BargeTalks x = new BargeTalks();
        Checks.feed(x, "cut 8;" + " ".repeat(145) + "memory 9;");
        Checks.due("tape is full", x.count(2), 160);
        Checks.due("all of it is read", x.text(), 2);
        Checks.feed(x, " ".repeat(160));
        Checks.due("all of it blank", x.text(), 0);
        x = new BargeTalks();
        Checks.feed(x, " ".repeat(155) + "cut 1");
        Checks.due("its last byte at fault", x.text(), -10 - 159);
        Checks.feed(x, " ".repeat(155) + "cut 2");
        Checks.due("its end at fault", x.text(), -10 - 160);
    }

    private static void textTellsAll() {
        BargeTalks x = new BargeTalks();
        Checks.feed(x, "  plain 39 1 ;quick07 9;shy 20 2;deaf 19 3;talk 3 0 20;talk 1 2 1;memory 99;cut10;  ");
        Checks.due("text", x.text(), 8);
        Checks.due("fault", x.fault(), 0);
        int[][] due = {{0, 19, 1, 1}, {1, 7, 9, 7}, {2, 0, 2, 0}, {3, 19, 3, 1}};
        for (int b = 0; b < 4; b++) {
            for (int w = 0; w < 4; w++) {
                Checks.due("barge " + b + " " + w, x.barge(b, w), due[b][w]);
            }
        }
        Checks.due("talk 0 first", x.talk(0, 0), 3);
        Checks.due("talk 0 second", x.talk(0, 1), 0);
        Checks.due("talk 0 need", x.talk(0, 2), 20);
        Checks.due("talk 1 need", x.talk(1, 2), 1);
        Checks.due("memory", x.rule(4), 99);
        Checks.due("cut", x.rule(3), 10);
        BargeTalks late = Checks.told("plain 39 1;cut 3;");
        Checks.due("phase by the cut that is told behind it", late.barge(0, 1), 3);
    }

    private static void textStandsInPlaceOfAll() {
        BargeTalks x = Checks.told("cut 4;memory 5;plain 0 1;plain 0 1;talk 0 1 9;");
        x.hours(3);
        x.see(0, 0, 3);
        x.keep(0);
        x.keep(1);
        x.sheet(0, 2, 5);
        Checks.due("text of nothing", x.text(), 0);
        int[] rules = {0, 0, 0, 10, 40, 0, 0, 0};
        for (int w = 0; w < rules.length; w++) {
            Checks.due("then rule " + w, x.rule(w), rules[w]);
        }
        Checks.due("nothing is seen", x.count(0), 0);
        Checks.due("images are gone", x.count(1), 0);
        Checks.due("no way back", x.back(0), -2);
        Checks.due("sheets stay", x.count(3), 5);
    }

    private static void fault(String text, int fault, int place) {
        BargeTalks x = new BargeTalks();
        Checks.feed(x, text);
        Checks.due("text of " + text, x.text(), -10 - place);
        Checks.due("fault of " + text, x.fault(), fault);
        Checks.due("tape behind " + text, x.count(2), 0);
        Checks.due("text of nothing behind it", x.text(), 0);
        Checks.due("its fault", x.fault(), 0);
    }

    private static void faultsOfTokens() {
        fault("?", 1, 0);
        fault("  .", 1, 2);
        fault("Cut 2;", 1, 0);
        fault("cut 2\t;", 1, 5);
        fault("cut -2;", 1, 4);
        fault("cut 002;", 1, 4);
        fault("cut 2;123", 1, 6);
        fault("plain 0 1{", 1, 9);
        fault("`", 1, 0);
        fault("/", 1, 0);
        fault(":", 1, 0);
        fault("\0", 1, 0);
    }

    private static void faultsOfOrder() {
        fault("barge 1 1;", 2, 0);
        fault("cutt 3;", 2, 0);
        fault("z", 2, 0);
        fault("but 3;", 2, 0);
        fault("dear 3 3;", 2, 0);
        fault("cu 3;", 2, 0);
        fault(" ;", 2, 1);
        fault("cut 2;;", 2, 6);
        fault("7", 2, 0);
        fault("cut", 2, 3);
        fault("cut   ", 2, 6);
        fault("cut 2", 2, 5);
        fault("cut 2  ", 2, 7);
        fault("cut;", 2, 3);
        fault("cut cut;", 2, 4);
        fault("cut 2 3;", 2, 6);
        fault("cut 2 cut 3;", 2, 6);
        fault("memory 2 x", 2, 9);
        fault("shy 1;", 2, 5);
        fault("deaf 1 1 1;", 2, 9);
        fault("talk 0 1;", 2, 8);
        fault("talk 0 1 2 3;", 2, 11);
        fault("talk;", 2, 4);
    }

    private static void faultsOfBounds() {
        fault("cut 1;", 3, 4);
        fault("cut 21;", 3, 4);
        fault("memory 0;", 3, 7);
        fault("plain 40 1;", 3, 6);
        fault("quick 0 0;", 3, 8);
        fault("shy 0 10;", 3, 6);
        fault("talk 5 0 1;", 3, 5);
        fault("talk 0 5 1;", 3, 7);
        fault("talk 0 1 0;", 3, 9);
        fault("talk 0 1 21;", 3, 9);
        Checks.told("cut 2;memory 1;plain 0 1;plain 39 9;talk 0 1 1;");
        Checks.told("cut 20;memory 99;plain 0 1;plain 39 9;talk 0 1 20;");
    }

    private static void faultsOfRepeats() {
        fault("cut 2;memory 3; cut 2;", 4, 16);
        fault("memory 3;memory", 4, 9);
        fault("cut 2;cut ?", 4, 6);
        fault("talk 1 01 99;", 4, 7);
    }

    private static void faultsOfNumbersOfThings() {
        String five = "plain 0 1;quick 0 1;shy 0 1;deaf 0 1;plain 0 1;";
        fault(five + "shy 0 1;", 5, five.length());
        fault(five + "plain", 5, five.length());
        String six = "talk 0 1 1;talk 0 1 1;talk 0 1 1;talk 0 1 1;talk 0 1 1;talk 0 1 1;";
        fault(six + "talk 9", 5, six.length());
        fault(six, 6, six.length());
        fault("plain 0 1; talk 0 1 1; ", 6, 23);
        fault("talk 4 0 1;plain 0 1;", 6, 21);
        Checks.due("five barges", Checks.told(five + six).rule(0), 5);
        Checks.due("six talks", Checks.told(six + five).rule(1), 6);
        Checks.due("the last barge first", Checks.told("talk 4 3 1;" + five).talk(0, 0), 4);
        Checks.due("the last barge second", Checks.told("talk 3 4 1;" + five).talk(0, 1), 4);
    }

    private static void firstFaultCounts() {
        fault("talk 0 1 1;cut 1;", 3, 15);
        fault("plain 40 ?", 3, 6);
        fault("memory 0 ?", 3, 7);
        fault("cut 1 ?", 3, 4);
        fault("plain 0 0 ?", 3, 8);
        fault("talk 0 1 0 ?", 3, 9);
        fault("cut 2 ?", 1, 6);
        fault("cut 99 999", 3, 4);
        fault("plain 0 1 999;", 1, 10);
        fault("talk 0 0 ?", 4, 7);
    }

    private static void faultChangesNothing() {
        BargeTalks x = Checks.told("cut 4;memory 5;quick 3 2;plain 0 1;talk 0 1 9;");
        x.hours(2);
        x.see(1, 0, 1);
        x.keep(1);
        Checks.feed(x, "cut 9;memory 9;plain 1 1;plain 1 1;plain 1 1;talk 1 0 2;oh");
        Checks.due("faulty text", x.text(), -10 - 56);
        Checks.due("barges", x.rule(0), 2);
        Checks.due("talks", x.rule(1), 1);
        Checks.due("hour", x.rule(2), 2);
        Checks.due("cut", x.rule(3), 4);
        Checks.due("memory", x.rule(4), 5);
        Checks.due("kind", x.barge(0, 0), 1);
        Checks.due("phase", x.barge(0, 1), 7);
        Checks.due("need", x.talk(0, 2), 9);
        Checks.due("seen", x.count(0), 1);
        Checks.due("images", x.count(1), 1);
    }

    private static void rules() {
        BargeTalks x = Checks.told("cut 3;memory 1;plain 0 1;quick 3 1;talk 0 1 4;talk 1 0 1;");
        Checks.due("rule -1", x.rule(-1), BAD);
        Checks.due("rule 8", x.rule(8), BAD);
        Checks.due("nobody is met in the hour to come", x.rule(7), 0);
        x.hours(1);
        Checks.due("hour", x.rule(2), 1);
        Checks.due("two pass in the hour to come", x.rule(7), 1);
        Checks.due("asking lets no hour go", x.rule(2), 1);
        x.hours(3);
        Checks.due("ended", x.rule(5), 1);
        Checks.due("lost", x.rule(6), 1);
        BargeTalks apart = Checks.told("cut 4;plain 2 1;plain 6 1;");
        Checks.due("who are at one place and part do not meet", apart.rule(7), 0);
        BargeTalks after = Checks.told("cut 4;plain 1 1;plain 2 3;");
        Checks.due("who stays behind does not meet", after.rule(7), 0);
        Checks.due("who comes up from behind meets", Checks.told("cut 4;plain 0 3;plain 1 1;").rule(7), 1);
        Checks.due("who comes to one place meets", Checks.told("cut 4;plain 0 2;plain 1 1;").rule(7), 1);
        Checks.due("all pairs", Checks.told("plain 0 1;shy 0 1;deaf 0 1;quick 0 1;plain 0 1;").rule(7), 10);
    }

    private static void barges() {
        BargeTalks x = Checks.told("cut 5;deaf 0 2;plain 9 3;shy 5 6;");
        Checks.due("barge -1", x.barge(-1, 0), BAD);
        Checks.due("barge 3", x.barge(3, 0), BAD);
        Checks.due("barge what -1", x.barge(0, -1), BAD);
        Checks.due("barge what 5", x.barge(0, 5), BAD);
        Checks.due("at 1, on its way back", x.barge(1, 3), 1);
        Checks.due("at the end", x.barge(2, 3), 5);
        Checks.due("meets both: 0 to 2, 1 to 2, 5 to 1", x.barge(0, 4), 2);
        Checks.due("meets both too", x.barge(2, 4), 2);
        BargeTalks y = Checks.told("cut 5;deaf 0 2;plain 3 1;shy 5 6;");
        Checks.due("meets one: 0 to 2, 3 to 4, 5 to 1", y.barge(0, 4), 1);
        Checks.due("meets one too", y.barge(1, 4), 1);
    }

    private static void talks() {
        BargeTalks x = Checks.told("cut 2;plain 0 2;deaf 0 2;talk 0 1 3;");
        Checks.due("talk -1", x.talk(-1, 0), BAD);
        Checks.due("talk 1", x.talk(1, 0), BAD);
        Checks.due("talk what -1", x.talk(0, -1), BAD);
        Checks.due("talk what 9", x.talk(0, 9), BAD);
        int[][] due = {{0, 1, 3, 0, 0, 0, 0, 0, 0}, {0, 1, 3, 1, 0, 0, 0, 1, 0}, {0, 1, 3, 1, 1, 0, 0, 1, 1},
            {0, 1, 3, 2, 0, 0, 0, 0, 0}, {0, 1, 3, 0, 0, 1, 0, 0, 0}};
        for (int h = 0; h < due.length; h++) {
            for (int w = 0; w < 9; w++) {
                Checks.due("behind " + h + " talk " + w, x.talk(0, w), due[h][w]);
            }
            x.hours(1);
        }
    }
}
