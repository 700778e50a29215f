/** Promises 9 to 13: what is changed by hand. */
public final class ChangeTest {
    private static final int BAD = -1, FULL = -3;

    public static void main(String[] args) {
        bargesAreAltered();
        memoryIsSet();
        talksAreStarted();
        talksAreCut();
        plainAndQuickSay();
        shyAndDeafSay();
        Checks.finish();
    }

    private static void bargesAreAltered() {
        BargeTalks x = Checks.told("cut 4;deaf 3 2;plain 0 1;");
        int[][] wrong = {{-1, 0, 0}, {2, 0, 0}, {0, -1, 0}, {0, 3, 1}, {0, 0, -1}, {0, 0, 4}, {0, 1, -1}, {0, 1, 8},
            {0, 2, 0}, {0, 2, 10}};
        for (int[] w : wrong) {
            Checks.due("alter " + w[0] + " " + w[1] + " " + w[2], x.alter(w[0], w[1], w[2]), BAD);
        }
        Checks.due("kind was", x.alter(0, 0, 0), 3);
        Checks.due("kind was then", x.alter(0, 0, 3), 0);
        Checks.due("phase was", x.alter(0, 1, 7), 3);
        Checks.due("phase was then", x.alter(0, 1, 0), 7);
        Checks.due("pace was", x.alter(0, 2, 9), 2);
        Checks.due("pace was then", x.alter(0, 2, 1), 9);
        int[] due = {3, 0, 1};
        for (int w = 0; w < 3; w++) {
            Checks.due("barge 0 is", x.barge(0, w), due[w]);
        }
        Checks.due("the other stays", x.barge(1, 2), 1);
    }

    private static void memoryIsSet() {
        BargeTalks x = new BargeTalks();
        Checks.due("memory 0", x.memory(0), BAD);
        Checks.due("memory 100", x.memory(100), BAD);
        Checks.due("memory 1", x.memory(1), 40);
        Checks.due("memory 99", x.memory(99), 1);
        Checks.due("memory is", x.rule(4), 99);
        BargeTalks far = Checks.told("cut 4;plain 0 8;plain 4 8;talk 0 1 9;");
        far.say(0);
        far.hours(5);
        Checks.due("less than it has been silent for", far.memory(3), 40);
        Checks.due("nothing is lost at once", far.talk(0, 6), 0);
        Checks.due("silent for", far.talk(0, 4), 5);
        far.hours(1);
        Checks.due("but in the next hour", far.talk(0, 6), 1);
        far.cut(0);
        far.start(0, 1, 9);
        Checks.due("one in its place has lost nothing", far.talk(0, 6), 0);
    }

    private static void talksAreStarted() {
        BargeTalks x = Checks.told("plain 0 1;plain 0 1;plain 0 1;talk 0 1 2;");
        int[][] wrong = {{-1, 0, 1}, {0, 3, 1}, {3, 0, 1}, {0, -1, 1}, {1, 1, 1}, {0, 1, 0}, {0, 1, 21}};
        for (int[] w : wrong) {
            Checks.due("start " + w[0] + " " + w[1] + " " + w[2], x.start(w[0], w[1], w[2]), BAD);
        }
        Checks.due("start 2nd", x.start(2, 0, 20), 2);
        int[] due = {2, 0, 20, 0, 0, 0, 0, 2, 0};
        for (int w = 0; w < 9; w++) {
            Checks.due("talk 1 " + w, x.talk(1, w), due[w]);
        }
        for (int n = 3; n <= 6; n++) {
            Checks.due("start " + n, x.start(1, 2, 1), n);
        }
        Checks.due("start 7th", x.start(1, 2, 1), FULL);
        Checks.due("wrong start of the 7th", x.start(1, 1, 1), BAD);
        Checks.due("six there are", x.rule(1), 6);
    }

    private static void talksAreCut() {
        BargeTalks x = Checks.told("cut 2;plain 0 2;plain 0 2;talk 0 1 1;talk 0 1 3;talk 1 0 4;");
        x.hours(2);
        Checks.due("cut -1", x.cut(-1), BAD);
        Checks.due("cut 4", x.cut(4), BAD);
        Checks.due("cut 3", x.cut(3), 3);
        Checks.due("cut 1", x.cut(1), 3);
        Checks.due("talk 1 is gone", x.talk(1, 0), BAD);
        Checks.due("talk 0 stays", x.talk(0, 5), 2);
        Checks.due("ended of all that are", x.rule(5), 2);
        Checks.due("start in its place", x.start(1, 0, 3), 2);
        Checks.due("it is new", x.talk(1, 3), 0);
        x.cut(0);
        Checks.due("start in place of one that has ended", x.start(0, 1, 3), 1);
        Checks.due("this one has not", x.talk(0, 5), 0);
        x.start(0, 1, 3);
        Checks.due("cut 0", x.cut(0), 2);
        Checks.due("cut 0 again", x.cut(0), 0);
    }

    private static void plainAndQuickSay() {
        BargeTalks x = Checks.told("plain 0 1;quick 5 1;talk 0 1 4;talk 1 0 1;");
        Checks.due("say -1", x.say(-1), BAD);
        Checks.due("say 2", x.say(2), BAD);
        Checks.due("plain says", x.say(0), 1);
        Checks.due("said", x.talk(0, 3), 1);
        Checks.due("quick says", x.say(0), 2);
        Checks.due("said then", x.talk(0, 3), 3);
        x.alter(0, 1, 3);
        x.alter(1, 1, 8);
        x.hours(1);
        Checks.due("silent for", x.talk(0, 4), 1);
        Checks.due("quick says, though there is need of one", x.say(0), 2);
        Checks.due("it ended", x.talk(0, 5), 1);
        Checks.due("nothing is said", x.talk(0, 3), 0);
        Checks.due("not silent", x.talk(0, 4), 0);
        Checks.due("quick says two of one", x.say(1), 2);
        Checks.due("it ended too", x.talk(1, 5), 1);
        Checks.due("no hour goes by saying", x.rule(2), 1);
    }

    private static void shyAndDeafSay() {
        BargeTalks x = Checks.told("cut 2;shy 0 2;deaf 0 2;plain 0 2;talk 0 1 3;");
        Checks.due("it would meet two", x.barge(0, 4), 2);
        Checks.due("shy says by hand, as if it met one", x.say(0), 1);
        Checks.due("deaf nods", x.say(0), 0);
        Checks.due("nod", x.talk(0, 8), 1);
        Checks.due("a nod leaves since", x.talk(0, 4), 0);
        Checks.due("deaf says", x.say(0), 1);
        Checks.due("no nod", x.talk(0, 8), 0);
        Checks.due("shy says the last", x.say(0), 1);
        Checks.due("ended", x.talk(0, 5), 1);
        BargeTalks y = Checks.told("cut 4;deaf 0 8;plain 4 8;talk 0 1 3;");
        y.say(0);
        y.alter(0, 0, 0);
        Checks.due("plain says with a nod there", y.say(0), 1);
        Checks.due("the nod stays", y.talk(0, 8), 1);
        y.hours(2);
        y.alter(1, 0, 3);
        Checks.due("silent for", y.talk(0, 4), 2);
        Checks.due("deaf says by the nod of another", y.say(0), 1);
        Checks.due("not silent then", y.talk(0, 4), 0);
        y.hours(2);
        y.alter(0, 0, 3);
        Checks.due("deaf nods by hand", y.say(0), 0);
        Checks.due("silent for as long as ahead", y.talk(0, 4), 2);
        y.say(0);
        Checks.due("an end takes the nod along", y.talk(0, 8), 0);
    }
}
