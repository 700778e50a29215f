/** Promises 14 to 19: hours that run, and as they would. */
public final class HoursTest {
    private static final int BAD = -1, FULL = -3, NONE = -4;
    private static final String TOGETHER = "cut 2;plain 0 2;plain 0 2;";
    private static final String APART = "cut 4;plain 0 8;plain 4 8;";

    public static void main(String[] args) {
        hoursRun();
        hoursAreLimited();
        countsStopAt999();
        kindsInAnHour();
        deafAmongMany();
        talksAreLost();
        runsLeaveAllAsItIs();
        aheadOfOneTalk();
        places();
        firstMeetings();
        allAsNow();
        Checks.finish();
    }

    private static void hoursRun() {
        BargeTalks x = Checks.told("cut 3;plain 0 1;quick 3 1;talk 0 1 4;talk 1 0 1;");
        Checks.due("hours 0", x.hours(0), 0);
        Checks.due("no hour", x.rule(2), 0);
        Checks.due("hours 2", x.hours(2), 1);
        Checks.due("phase 0", x.barge(0, 1), 2);
        Checks.due("phase 1", x.barge(1, 1), 5);
        Checks.due("said", x.talk(0, 3), 1);
        Checks.due("hours 3", x.hours(3), 1);
        Checks.due("said then", x.talk(0, 3), 3);
        Checks.due("hours 3 more", x.hours(3), 2);
        Checks.due("hour", x.rule(2), 8);
        Checks.due("ended", x.rule(5), 4);
    }

    private static void hoursAreLimited() {
        BargeTalks x = Checks.told(TOGETHER + "talk 0 1 7;");
        Checks.due("hours -1", x.hours(-1), BAD);
        Checks.due("hours 101", x.hours(101), BAD);
        for (int i = 0; i < 99; i++) {
            x.hours(100);
        }
        Checks.due("hours to 10000", x.hours(100), FULL);
        Checks.due("refused, nothing goes", x.rule(2), 9900);
        Checks.due("hours to 9999", x.hours(99), 99 / 7 + (99 % 7 + 9900 % 7) / 7);
        Checks.due("one more", x.hours(1), FULL);
        Checks.due("none more", x.hours(0), 0);
        Checks.due("wrong at the end of time", x.hours(101), BAD);
        Checks.due("hour", x.rule(2), 9999);
        Checks.due("it would go on", x.runs(7, 0), 1);
    }

    private static void countsStopAt999() {
        BargeTalks x = Checks.told(TOGETHER + "talk 0 1 1;");
        for (int i = 0; i < 10; i++) {
            Checks.due("hours 100", x.hours(100), 100);
        }
        Checks.due("ended", x.talk(0, 5), 999);
        Checks.due("hours beyond", x.hours(10), 10);
        Checks.due("runs beyond", x.runs(100, 0), 100);
        Checks.due("ahead beyond", x.ahead(0, 100, 1), 100);
        Checks.due("say beyond", x.say(0), 1);
        Checks.due("ended still", x.rule(5), 999);
        BargeTalks y = Checks.told("cut 3;memory 1;plain 0 1;plain 3 1;talk 0 1 4;");
        for (int i = 0; i < 30; i++) {
            y.hours(100);
        }
        Checks.due("lost each third hour", y.talk(0, 6), 999);
        Checks.due("lost beyond", y.runs(90, 1), 30);
        y.hours(90);
        Checks.due("lost still", y.rule(6), 999);
    }

    private static void kindsInAnHour() {
        int[] words = {10, 20, 10, 5};
        String[] kinds = {"plain", "quick", "shy", "deaf"};
        for (int k = 0; k < 4; k++) {
            String two = "cut 2;" + kinds[k] + " 0 2;" + kinds[k] + " 0 2;talk 0 1 20;";
            Checks.due("words of two that are " + kinds[k], Checks.told(two).runs(10, 2), words[k]);
        }
        int[] three = {10, 20, 0, 0};
        for (int k = 0; k < 4; k++) {
            String many = "cut 2;" + kinds[k] + " 0 2;" + kinds[k] + " 0 2;plain 0 2;talk 0 1 20;";
            Checks.due("words where all meet two, " + kinds[k], Checks.told(many).runs(10, 2), three[k]);
        }
        BargeTalks x = Checks.told("cut 2;deaf 0 2;plain 0 2;talk 0 1 2;");
        Checks.due("nod, word, answer", x.runs(9, 0), 3);
    }

    private static void deafAmongMany() {
        BargeTalks x = Checks.told("cut 2;deaf 0 2;plain 0 2;plain 0 2;talk 0 1 2;");
        int[] nods = {0, 1, 0, 1};
        for (int nod : nods) {
            Checks.due("nod", x.talk(0, 8), nod);
            Checks.due("nothing said", x.talk(0, 3), 0);
            x.hours(1);
        }
    }

    private static void talksAreLost() {
        BargeTalks x = Checks.told(APART + "talk 0 1 9;");
        x.memory(3);
        x.hours(9);
        Checks.due("what has not begun is not lost", x.talk(0, 6), 0);
        Checks.due("nor silent", x.talk(0, 4), 0);
        x.say(0);
        x.alter(1, 0, 3);
        x.say(0);
        x.hours(3);
        Checks.due("silent as long as memory", x.talk(0, 4), 3);
        Checks.due("said", x.talk(0, 3), 1);
        Checks.due("nod", x.talk(0, 8), 1);
        x.hours(1);
        int[] due = {0, 0, 0, 1, 0, 0};
        for (int w = 3; w <= 8; w++) {
            Checks.due("lost: talk " + w, x.talk(0, w), due[w - 3]);
        }
        BargeTalks y = Checks.told("cut 2;memory 1;plain 0 2;shy 0 2;plain 0 2;talk 0 1 9;");
        y.hours(1);
        Checks.due("said one", y.talk(0, 3), 1);
        y.hours(1);
        Checks.due("they meet, the shy one says none: silent", y.talk(0, 4), 1);
        Checks.due("lost so", y.runs(1, 1), 1);
    }

    private static void runsLeaveAllAsItIs() {
        BargeTalks x = Checks.told("cut 3;memory 1;plain 0 1;quick 3 1;plain 0 6;talk 0 1 4;talk 1 0 1;");
        int[][] wrong = {{-1, 0}, {101, 0}, {1, -1}, {1, 4}};
        for (int[] w : wrong) {
            Checks.due("runs " + w[0] + " " + w[1], x.runs(w[0], w[1]), BAD);
        }
        for (int w = 0; w < 4; w++) {
            Checks.due("runs 0 " + w, x.runs(0, w), 0);
        }
        Checks.due("runs 4: ended", x.runs(4, 0), 1);
        Checks.due("runs 4: lost", x.runs(4, 1), 1);
        Checks.due("runs 4: words, uncut", x.runs(4, 2), 3);
        Checks.due("runs 6: pairs", x.runs(6, 3), 4);
        Checks.due("no hour", x.rule(2), 0);
        Checks.due("no phase", x.barge(0, 1), 0);
        Checks.due("no talk", x.talk(1, 5), 0);
    }

    private static void aheadOfOneTalk() {
        BargeTalks x = Checks.told(TOGETHER + "talk 0 1 3;talk 1 0 7;");
        int[][] wrong = {{-1, 0, 0}, {2, 0, 0}, {0, -1, 0}, {0, 101, 0}, {0, 0, -1}, {0, 0, 2}};
        for (int[] w : wrong) {
            Checks.due("ahead " + w[0] + " " + w[1] + " " + w[2], x.ahead(w[0], w[1], w[2]), BAD);
        }
        Checks.due("said now", x.ahead(0, 0, 0), 0);
        Checks.due("said behind 100", x.ahead(0, 100, 0), 1);
        Checks.due("ends in 100", x.ahead(0, 100, 1), 33);
        Checks.due("said of the other", x.ahead(1, 100, 0), 2);
        Checks.due("ends of the other", x.ahead(1, 100, 1), 14);
        x.hours(4);
        Checks.due("ends from now on alone", x.ahead(0, 5, 1), 2);
        Checks.due("nothing changes", x.talk(0, 3), 1);
    }

    private static void places() {
        BargeTalks x = Checks.told("cut 5;plain 8 3;plain 0 9;");
        Checks.due("at -1", x.at(-1, 0), BAD);
        Checks.due("at 2", x.at(2, 0), BAD);
        Checks.due("at hours -1", x.at(0, -1), BAD);
        Checks.due("at hours 101", x.at(0, 101), BAD);
        int[] due = {2, 1, 4, 3, 0, 3, 4, 1, 2, 5, 2};
        for (int n = 0; n < due.length; n++) {
            Checks.due("at behind " + n, x.at(0, n), due[n]);
        }
        Checks.due("at behind 99", x.at(0, 99), 5);
        Checks.due("at behind 100", x.at(0, 100), 2);
        Checks.due("the other behind 99", x.at(1, 99), 1);
    }

    private static void firstMeetings() {
        BargeTalks x = Checks.told("cut 20;plain 0 1;plain 20 1;plain 0 1;plain 2 1;");
        int[][] wrong = {{-1, 0}, {0, 4}, {4, 0}, {0, -1}, {1, 1}};
        for (int[] w : wrong) {
            Checks.due("when " + w[0] + " " + w[1], x.when(w[0], w[1]), BAD);
        }
        Checks.due("in this hour", x.when(0, 2), 0);
        Checks.due("half way", x.when(0, 1), 9);
        Checks.due("either way", x.when(1, 0), 9);
        Checks.due("either way of 2 and 1", x.when(2, 1), 9);
        Checks.due("at the far end", x.when(0, 3), 18);
        Checks.due("nothing goes", x.rule(2), 0);
        Checks.due("never", Checks.told(APART).when(0, 1), NONE);
    }

    private static void allAsNow() {
        Checks.due("no barges", new BargeTalks().again(), 1);
        Checks.due("standing", Checks.told(APART).again(), 1);
        Checks.due("cut 20 by 1", Checks.told("cut 20;plain 5 1;").again(), 40);
        Checks.due("cut 3 by 2, 3", Checks.told("cut 3;plain 1 2;plain 2 3;").again(), 6);
        Checks.due("cut 6 by 2, 3", Checks.told("cut 6;plain 1 8;plain 2 3;").again(), 12);
        Checks.due("cut 2 by 2", Checks.told(TOGETHER).again(), 2);
    }
}
