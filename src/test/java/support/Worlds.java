/** Objects from which the tests of boundaries begin; each call makes a new one. */
final class Worlds {
    static final String FIVE = "plain 0 1;quick 3 2;shy 7 3;deaf 9 9;plain 19 4;";
    /** Who are always at one place. */
    static final String TOGETHER = "cut 2;plain 0 2;plain 0 2;";
    /** Who never meet: each stands at an end, as its pace is the way round. */
    static final String APART = "cut 4;plain 0 8;plain 4 8;";

    private Worlds() {
    }

    static BargeTalks together() {
        return Checks.told(TOGETHER);
    }

    static BargeTalks apart() {
        return Checks.told(APART);
    }

    /** Something of all: talks under way, a nod, what is seen, an image, sheets, bytes on the tape, faults. */
    static BargeTalks rich() {
        BargeTalks x = Checks.told("cut 4;memory 9;shy 1 2;deaf 7 3;quick 4 5;talk 0 1 5;talk 1 2 20;talk 2 0 3;");
        x.hours(3);
        see(x, 2, 1);
        x.keep(1);
        x.hours(4);
        x.say(0);
        see(x, 1, 0);
        see(x, 20, 2);
        layAll(x, 0, 0, 0, 1, 5, 2, 0, 20);
        layAll(x, 1, 1, 1, 2, 7);
        x.sheet(2, 2, 0);
        Checks.feed(x, "cut 1;");
        x.text();
        x.read(2, 2, 0, 1);
        Checks.feed(x, "shy 9 9;cut 3;memory 7;");
        return x;
    }

    /** As many of all as there may be: barges, talks, seen, images, cells, bytes on the tape. */
    static BargeTalks full() {
        BargeTalks x = sixTalks();
        for (int i = 0; i < 6; i++) {
            see(x, 3 * i, i);
        }
        x.keep(0);
        x.keep(1);
        for (int k = 0; k < 4; k++) {
            x.sheet(k, k % 3, 40);
            x.lay(k, 1, 1);
            x.lay(k, 2, 20 - k);
        }
        Checks.feed(x, " ".repeat(147) + "cut 2;shy 3 4");
        return x;
    }

    static BargeTalks fiveBarges() {
        return Checks.told(FIVE);
    }

    static BargeTalks sixTalks() {
        BargeTalks x = fiveBarges();
        for (int t = 0; t < 6; t++) {
            x.start(t % 5, (t + 1) % 5, 20 - t);
        }
        return x;
    }

    /** Two talks of two who are always together, in the last hour that there may be. */
    static BargeTalks lastHour() {
        BargeTalks x = Checks.told(TOGETHER + "talk 0 1 7;talk 1 0 20;");
        for (int i = 0; i < 99; i++) {
            x.hours(100);
        }
        x.hours(99);
        return x;
    }

    /** That which will be, so that what is seen rules nothing out of what is. */
    static void see(BargeTalks x, int n, int t) {
        x.see(n, t, x.ahead(t, n, 0));
    }

    static void layAll(BargeTalks x, int k, int lane, int... cells) {
        x.sheet(k, lane, cells.length);
        for (int i = 0; i < cells.length; i++) {
            x.lay(k, i, cells[i]);
        }
    }
}
