/** Promises 20 to 25: what is best, and fog. */
public final class BestTest {
    private static final int BAD = -1, NONE = -4;
    /** The least one, where none makes an end. */
    private static final int NO_PACE = 1;
    private static final String TOGETHER = "cut 2;plain 0 2;plain 0 2;";
    private static final String APART = "cut 4;plain 0 8;plain 4 8;";

    public static void main(String[] args) {
        bestPhaseAndPace();
        bestKind();
        leastMemory();
        paces();
        luckInFog();
        luckWithMemory();
        meanInFog();
        wrongNumbers();
        Checks.finish();
    }

    private static void bestPhaseAndPace() {
        BargeTalks x = Checks.told("cut 2;plain 0 1;plain 0 2;talk 0 1 1;");
        Checks.due("best pace", x.best(0, 2, 4, 0), 2);
        Checks.due("ends by it", x.best(0, 2, 4, 1), 4);
        Checks.due("pace of the other", x.best(1, 2, 4, 0), 1);
        Checks.due("best phase", x.best(0, 1, 1, 0), 1);
        Checks.due("ends by it", x.best(0, 1, 1, 1), 1);
        Checks.due("all phases alike: the least", x.best(0, 1, 4, 0), 0);
        Checks.due("ends by any", x.best(0, 1, 4, 1), 3);
        Checks.due("no hours: the least phase", x.best(0, 1, 0, 0), 0);
        Checks.due("no hours: the least pace", x.best(0, 2, 0, 0), 1);
        Checks.due("no hours: none end", x.best(0, 2, 0, 1), 0);
        Checks.due("pace stays", x.barge(0, 2), 1);
        Checks.due("phase stays", x.barge(0, 1), 0);
        BargeTalks last = Checks.told("cut 2;plain 0 4;plain 0 1;talk 0 1 1;");
        Checks.due("the last phase alone comes to who stands at 0", last.best(1, 1, 1, 0), 3);
        BargeTalks quickest = Checks.told("cut 20;plain 0 1;plain 10 1;talk 0 1 1;");
        Checks.due("the greatest pace alone is that of who is 10 behind", quickest.best(0, 2, 1, 0), NO_PACE);
        quickest.alter(1, 1, 8);
        Checks.due("8 behind it is", quickest.best(0, 2, 1, 0), 9);
    }

    private static void bestKind() {
        BargeTalks x = Checks.told(TOGETHER + "talk 0 1 20;");
        Checks.due("quick", x.kind(0, 20, 0), 1);
        Checks.due("ends", x.kind(0, 20, 1), 2);
        Checks.due("all alike: the first", x.kind(1, 1, 0), 0);
        Checks.due("no ends", x.kind(1, 1, 1), 0);
        Checks.due("kind stays", x.barge(0, 0), 0);
        BargeTalks y = Checks.told("cut 2;deaf 0 2;plain 0 2;talk 0 1 1;");
        Checks.due("best not to be deaf", y.kind(0, 10, 0), 0);
        Checks.due("ends so", y.kind(0, 10, 1), 10);
        Checks.due("no hours: the first", y.kind(0, 0, 0), 0);
        Checks.due("no hours: none end", y.kind(0, 0, 1), 0);
    }

    private static void leastMemory() {
        BargeTalks x = Checks.told("cut 3;memory 1;plain 0 1;plain 3 1;talk 0 1 4;");
        Checks.due("need -1", x.need(-1), BAD);
        Checks.due("need 101", x.need(101), BAD);
        Checks.due("need 0", x.need(0), 1);
        Checks.due("need 3", x.need(3), 1);
        Checks.due("need 4", x.need(4), 2);
        Checks.due("need 100", x.need(100), 2);
        Checks.due("memory stays", x.rule(4), 1);
        BargeTalks far = Checks.told(APART + "talk 0 1 4;");
        Checks.due("nothing begun", far.need(100), 1);
        far.say(0);
        Checks.due("need 99", far.need(99), 99);
        Checks.due("need 100 of silence", far.need(100), NONE);
        far.hours(30);
        Checks.due("silence goes on", far.need(60), 90);
        Checks.due("silence up to now is not asked", far.need(0), 1);
        far.alter(1, 1, 0);
        Checks.due("nor if it ends at once", far.need(1), 1);
    }

    private static void paces() {
        BargeTalks x = Checks.told("cut 2;plain 0 2;plain 0 1;plain 0 2;plain 0 2;talk 0 1 1;");
        Checks.due("of several the least", x.swap(4, 0), 12);
        Checks.due("ends by it", x.swap(4, 1), 4);
        Checks.due("no better in none", x.swap(0, 0), NONE);
        Checks.due("nor how many", x.swap(0, 1), NONE);
        Checks.due("pace stays", x.barge(1, 2), 1);
        BargeTalks y = Checks.told("cut 2;plain 0 2;plain 0 1;plain 0 1;plain 0 2;talk 0 1 1;");
        Checks.due("0 and 2", y.swap(4, 0), 2);
        Checks.due("swap -1", y.swap(-1, 0), BAD);
        Checks.due("swap 101", y.swap(101, 0), BAD);
        Checks.due("swap what -1", y.swap(1, -1), BAD);
        Checks.due("swap what 2", y.swap(1, 2), BAD);
        Checks.due("as good as it is: none", Checks.told(TOGETHER + "talk 0 1 1;").swap(9, 0), NONE);
        Checks.due("no barges", new BargeTalks().swap(9, 1), NONE);
    }

    private static void luck(BargeTalks x, int[] call, long above, long below) {
        String name = "luck " + call[0] + " " + call[1] + " " + call[2];
        Checks.due(name + " above", x.luck(call[0], call[1], call[2], 0), above);
        Checks.due(name + " below", x.luck(call[0], call[1], call[2], 1), below);
    }

    private static void luckInFog() {
        BargeTalks x = Checks.told(TOGETHER + "talk 0 1 2;talk 0 1 8;");
        luck(x, new int[] {3, 0, 0}, 1, 1);
        luck(x, new int[] {3, 0, 1}, 1, 1);
        luck(x, new int[] {3, 0, 2}, 51, 100);
        luck(x, new int[] {0, 0, 2}, 0, 1);
        luck(x, new int[] {10, 0, 8}, 1, 1);
        luck(x, new int[] {5, 0, 8}, 9, 256);
        luck(x, new int[] {1, 1, 8}, 100000000L - 43046721L, 100000000L);
        luck(x, new int[] {5, 1, 8}, 255, 256);
        x.hours(1);
        luck(x, new int[] {4, 0, 1}, 2, 5);
        Checks.due("nothing changes", x.talk(0, 3), 1);
    }

    private static void luckWithMemory() {
        BargeTalks x = Checks.told("memory 1;" + TOGETHER + "talk 0 1 2;");
        luck(x, new int[] {3, 0, 4}, 639, 5000);
        BargeTalks shy = Checks.told("cut 2;shy 0 2;plain 0 2;plain 0 2;talk 0 1 1;");
        luck(shy, new int[] {5, 0, 8}, 1, 1);
        BargeTalks deaf = Checks.told("cut 2;deaf 0 2;plain 0 2;talk 0 1 1;");
        luck(deaf, new int[] {5, 0, 2}, 3, 4);
        BargeTalks answers = Checks.told("cut 2;plain 0 2;quick 0 2;talk 0 1 3;");
        luck(answers, new int[] {5, 0, 2}, 3, 4);
        luck(answers, new int[] {5, 0, 1}, 1, 1);
        BargeTalks crowd = Checks.told("cut 2;plain 0 2;shy 0 2;plain 0 2;talk 0 1 2;");
        luck(crowd, new int[] {5, 0, 8}, 1, 1);
    }

    private static void mean(BargeTalks x, int v, int n, long above, long below) {
        Checks.due("mean " + v + " " + n + " above", x.mean(v, n, 0), above);
        Checks.due("mean " + v + " " + n + " below", x.mean(v, n, 1), below);
    }

    private static void meanInFog() {
        BargeTalks x = Checks.told(TOGETHER + "talk 0 1 2;");
        mean(x, 3, 2, 7, 5);
        mean(x, 10, 8, 0, 1);
        mean(x, 5, 0, 0, 1);
        mean(x, 0, 8, 8, 1);
        BargeTalks quick = Checks.told("cut 2;quick 0 2;quick 0 2;talk 0 1 1;talk 0 1 20;");
        mean(quick, 5, 1, 2, 1);
        mean(quick, 9, 8, 16, 5);
        mean(new BargeTalks(), 5, 8, 0, 1);
        BargeTalks deaf = Checks.told("cut 2;deaf 0 2;plain 0 2;talk 0 1 1;");
        mean(deaf, 5, 2, 1, 4);
        mean(x, 1, 1, 9, 10);
        mean(Checks.told("memory 1;cut 2;plain 0 2;quick 0 2;talk 0 1 9;"), 1, 3, 4401, 1000);
    }

    private static void wrongNumbers() {
        BargeTalks x = Checks.told(TOGETHER + "talk 0 1 2;");
        int[][] best = {{-1, 1, 0, 0}, {2, 1, 0, 0}, {0, 0, 0, 0}, {0, 3, 0, 0}, {0, 1, -1, 0}, {0, 1, 101, 0},
            {0, 1, 0, -1}, {0, 1, 0, 2}};
        for (int[] w : best) {
            Checks.due("wrong best", x.best(w[0], w[1], w[2], w[3]), BAD);
        }
        int[][] kind = {{-1, 0, 0}, {2, 0, 0}, {0, -1, 0}, {0, 101, 0}, {0, 0, -1}, {0, 0, 2}};
        for (int[] w : kind) {
            Checks.due("wrong kind", x.kind(w[0], w[1], w[2]), BAD);
        }
        int[][] luck = {{-1, 0, 0, 0}, {11, 0, 0, 0}, {0, -1, 0, 0}, {0, 1, 0, 0}, {0, 0, -1, 0}, {0, 0, 9, 0},
            {0, 0, 0, -1}, {0, 0, 0, 2}};
        for (int[] w : luck) {
            Checks.due("wrong luck", x.luck(w[0], w[1], w[2], w[3]), BAD);
        }
        int[][] mean = {{-1, 0, 0}, {11, 0, 0}, {0, -1, 0}, {0, 9, 0}, {0, 0, -1}, {0, 0, 2}};
        for (int[] w : mean) {
            Checks.due("wrong mean", x.mean(w[0], w[1], w[2]), BAD);
        }
    }
}
