/** Promises 26 to 31: what was SEEN, and paces by a seed. */
public final class SeenTest {
    private static final int BAD = -1, STATE = -2, FULL = -3, NONE = -4;
    private static final String TOGETHER = "cut 2;plain 0 2;plain 0 2;talk 0 1 5;";

    public static void main(String[] args) {
        seeAndForget();
        kinds();
        paces();
        seenIsFromNowOn();
        talksThatAreNoMore();
        ask();
        askOfSeveralTalks();
        driftBySeed();
        Checks.finish();
    }

    private static void seeAndForget() {
        BargeTalks x = Checks.told(TOGETHER);
        int[][] wrong = {{-1, 0, 0}, {21, 0, 0}, {0, -1, 0}, {0, 1, 0}, {0, 0, -1}, {0, 0, 21}};
        for (int[] w : wrong) {
            Checks.due("see " + w[0] + " " + w[1] + " " + w[2], x.see(w[0], w[1], w[2]), BAD);
        }
        Checks.due("forget 1 of none", x.forget(1), BAD);
        for (int n = 1; n <= 6; n++) {
            Checks.due("see", x.see(20, 0, n == 6 ? 20 : 0), n);
        }
        Checks.due("see the 7th", x.see(0, 0, 0), FULL);
        Checks.due("see the 7th wrong", x.see(0, 0, 21), BAD);
        Checks.due("seen", x.count(0), 6);
        Checks.due("forget -1", x.forget(-1), BAD);
        Checks.due("forget 7", x.forget(7), BAD);
        Checks.due("forget to 6", x.forget(6), 6);
        Checks.due("the 6th never is", x.kinds(0), 0);
        Checks.due("forget to 5", x.forget(5), 6);
        Checks.due("without it: behind 20 all is said by plain and shy, not by quick and deaf", x.kinds(0), 5);
        Checks.due("forget to 0", x.forget(0), 5);
        Checks.due("nothing seen", x.count(0), 0);
    }

    private static void kinds() {
        BargeTalks x = Checks.told(TOGETHER);
        Checks.due("kinds -1", x.kinds(-1), BAD);
        Checks.due("kinds 2", x.kinds(2), BAD);
        Checks.due("nothing seen: any", x.kinds(0), 15);
        x.see(1, 0, 1);
        Checks.due("not quick, not deaf", x.kinds(0), 5);
        Checks.due("who is silent: any", x.kinds(1), 15);
        x.see(2, 0, 3);
        Checks.due("quick answers", x.kinds(1), 2);
        Checks.due("none of the first one", x.kinds(0), 0);
        x.forget(0);
        x.see(1, 0, 0);
        Checks.due("deaf alone", x.kinds(0), 8);
        x.forget(0);
        x.see(1, 0, 2);
        Checks.due("quick alone", x.kinds(0), 2);
        Checks.due("kind stays", x.barge(0, 0), 0);
    }

    private static void paces() {
        BargeTalks x = Checks.told(TOGETHER);
        Checks.due("paces -1", x.paces(-1), BAD);
        Checks.due("paces 2", x.paces(2), BAD);
        Checks.due("nothing seen: any", x.paces(0), 1022);
        x.see(1, 0, 1);
        Checks.due("2, 6", x.paces(0), 68);
        Checks.due("2, 6 of the other", x.paces(1), 68);
        x.forget(0);
        x.see(3, 0, 1);
        Checks.due("4, 8", x.paces(0), 16 + 256);
        x.see(0, 0, 1);
        Checks.due("none", x.paces(0), 0);
        Checks.due("pace stays", x.barge(0, 2), 2);
    }

    private static void seenIsFromNowOn() {
        BargeTalks x = Checks.told(TOGETHER);
        x.see(0, 0, 0);
        Checks.due("as seen", x.kinds(0), 15);
        x.hours(1);
        Checks.due("seen stays", x.count(0), 1);
        Checks.due("not as seen from now on", x.kinds(0), 0);
        x.hours(4);
        Checks.due("as seen once more", x.kinds(0), 15);
        x.see(20, 0, 0);
        Checks.due("up to 20 hours", x.kinds(0), 5);
    }

    private static void talksThatAreNoMore() {
        BargeTalks x = Checks.told(TOGETHER);
        x.start(1, 0, 5);
        x.see(0, 1, 0);
        Checks.due("as seen", x.kinds(0), 15);
        x.cut(1);
        Checks.due("never as seen", x.kinds(0), 0);
        Checks.due("by no pace", x.paces(1), 0);
        Checks.due("nothing to ask", x.ask(1, 0), NONE);
        x.start(1, 0, 7);
        Checks.due("there again", x.kinds(0), 15);
    }

    private static void ask() {
        BargeTalks x = Checks.told(TOGETHER);
        Checks.due("ask -1", x.ask(-1, 0), BAD);
        Checks.due("ask 2", x.ask(2, 0), BAD);
        Checks.due("ask what -1", x.ask(0, -1), BAD);
        Checks.due("ask what 2", x.ask(0, 2), BAD);
        Checks.due("behind 3 hours: odd ones, 2 6, 4 8", x.ask(0, 0), 30);
        Checks.due("five are left at the worst", x.ask(0, 1), 5);
        x.see(1, 0, 1);
        Checks.due("2 and 6 are never told apart", x.ask(0, 0), NONE);
        Checks.due("nor how many", x.ask(0, 1), NONE);
        x.forget(0);
        x.see(1, 0, 0);
        Checks.due("2 and 6 left out: behind 3 hours", x.ask(0, 0), 30);
        Checks.due("no talk, nothing to ask", Checks.told("plain 0 1;plain 3 1;").ask(0, 0), NONE);
        String far = "cut 20;plain 0 1;plain 39 1;talk 0 1 20;talk 1 0 3;";
        Checks.due("hours of two figures", Checks.told(far).ask(0, 0) / 10, firstBest(far));
    }

    /** By the other calls: the first of the HOURS behind which fewest paces are left at the worst. */
    private static int firstBest(String text) {
        int fewest = 9;
        int hours = -1;
        for (int h = 0; h <= 20; h++) {
            for (int t = 0; t < 2; t++) {
                BargeTalks x = Checks.told(text);
                int worst = 0;
                for (int v = 0; v <= 20; v++) {
                    x.see(h, t, v);
                    worst = Math.max(worst, Integer.bitCount(x.paces(0)));
                    x.forget(0);
                }
                if (worst < fewest) {
                    fewest = worst;
                    hours = h;
                }
            }
        }
        Checks.due("how many", Checks.told(text).ask(0, 1), fewest);
        return hours;
    }

    private static void askOfSeveralTalks() {
        BargeTalks x = Checks.told("cut 2;plain 0 2;plain 0 2;talk 0 1 1;talk 0 1 5;");
        Checks.due("the talk that does not end at once", x.ask(0, 0), 31);
        Checks.due("five are left", x.ask(0, 1), 5);
        BargeTalks late = Checks.told("cut 19;plain 26 2;plain 27 1;talk 0 1 9;");
        late.see(10, 0, 1);
        late.see(7, 0, 1);
        Checks.due("2, 3, 4", late.paces(1), 4 + 8 + 16);
        Checks.due("told apart behind 20 hours at the earliest", late.ask(1, 0), 200);
        Checks.due("one is left then", late.ask(1, 1), 1);
        for (int p = 2; p <= 4; p++) {
            late.alter(1, 2, p);
            Checks.due("said behind 20 hours by " + p, late.ahead(0, 20, 0), new int[] {2, 3, 4}[p - 2]);
        }
        BargeTalks y = Checks.told("cut 2;plain 0 2;plain 0 2;talk 0 1 5;talk 0 1 5;");
        Checks.due("of several the least", y.ask(0, 0), 30);
    }

    private static void driftBySeed() {
        BargeTalks x = Checks.told("cut 2;plain 0 2;plain 0 1;talk 0 1 1;");
        Checks.due("as it is", x.runs(1, 0), 0);
        Checks.due("seed 0: barge 0 by 1", x.drift(0, 1, 0), 1);
        Checks.due("words", x.drift(0, 1, 1), 1);
        Checks.due("pace stays", x.barge(0, 2), 2);
        Checks.due("phase stays", x.barge(0, 1), 0);
        Checks.due("hour stays", x.rule(2), 0);
        BargeTalks y = Checks.told("cut 2;plain 0 1;quick 0 2;talk 1 0 1;");
        Checks.due("seed 2, a bit above 30: barge 0 by 6", y.drift(2, 1, 0), 1);
        Checks.due("words, uncut", y.drift(2, 1, 1), 2);
        Checks.due("seed 1: barge 0 by 8", y.drift(1, 1, 0), 0);
        Checks.due("seed 1 words", y.drift(1, 1, 1), 0);
        int[][] wrong = {{0, 0, 0}, {0, 101, 0}, {0, 1, -1}, {0, 1, 2}};
        for (int[] w : wrong) {
            Checks.due("drift " + w[1] + " " + w[2], y.drift(w[0], w[1], w[2]), BAD);
        }
        Checks.due("one barge", Checks.told("plain 0 1;").drift(0, 1, 0), 0);
        Checks.due("no barges", new BargeTalks().drift(0, 1, 0), STATE);
        Checks.due("no barges and wrong", new BargeTalks().drift(0, 0, 0), BAD);
    }
}
