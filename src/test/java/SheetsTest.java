/** Promises 32 to 38: images, sheets, counts. */
public final class SheetsTest {
    private static final int BAD = -1, STATE = -2, NONE = -4;
    private static final int NULL = 1, INDEX = 2, CAST = 3;

    public static void main(String[] args) {
        images();
        imagesKeepLostAndSeen();
        imagesStandApart();
        sheetsAreMade();
        cellsAreLaid();
        talksAreRead();
        lowestBits();
        tornSheets();
        noTalksAreNeverTorn();
        refusedTalks();
        tornIsOfReadsThatEnd();
        counts();
        Checks.finish();
    }

    private static void images() {
        BargeTalks x = Checks.told("cut 2;memory 7;plain 0 2;deaf 0 2;talk 0 1 3;talk 1 0 4;");
        Checks.due("keep -1", x.keep(-1), BAD);
        Checks.due("keep 2", x.keep(2), BAD);
        Checks.due("back -1", x.back(-1), BAD);
        Checks.due("back 2", x.back(2), BAD);
        Checks.due("back to none", x.back(1), STATE);
        x.hours(6);
        x.see(3, 1, 2);
        int[] talk = talkRow(x);
        Checks.due("keep", x.keep(1), 0);
        Checks.due("images", x.count(1), 1);
        x.hours(5);
        x.memory(9);
        x.cut(0);
        x.forget(0);
        x.alter(0, 0, 1);
        x.alter(0, 1, 3);
        x.alter(0, 2, 9);
        Checks.due("back", x.back(1), 6);
        Checks.due("hour", x.rule(2), 6);
        Checks.due("memory", x.rule(4), 7);
        Checks.due("talks", x.rule(1), 2);
        Checks.due("seen", x.count(0), 1);
        Checks.due("kind", x.barge(0, 0), 0);
        Checks.due("phase", x.barge(0, 1), 0);
        Checks.due("pace", x.barge(0, 2), 2);
        int[] then = talkRow(x);
        for (int i = 0; i < talk.length; i++) {
            Checks.due("all of the talks: " + i, then[i], talk[i]);
        }
        Checks.due("kept still", x.keep(1), 1);
    }

    private static void imagesKeepLostAndSeen() {
        BargeTalks x = Checks.told("cut 3;memory 1;plain 0 1;plain 3 1;talk 0 1 4;talk 1 0 4;");
        x.see(3, 1, 1);
        x.see(4, 0, 0);
        x.hours(6);
        Checks.due("lost", x.talk(0, 6), 1);
        Checks.due("as seen, six hours go round", x.paces(0) >> 1 & 1, 1);
        int paces = x.paces(0);
        int kinds = x.kinds(0);
        x.keep(0);
        x.hours(6);
        x.forget(0);
        x.see(1, 0, 20);
        x.see(1, 0, 20);
        Checks.due("never as seen", x.paces(0), 0);
        x.back(0);
        Checks.due("lost then", x.talk(0, 6), 1);
        Checks.due("seen then", x.count(0), 2);
        Checks.due("paces by it", x.paces(0), paces);
        Checks.due("kinds by it", x.kinds(0), kinds);
    }

    private static int[] talkRow(BargeTalks x) {
        int[] row = new int[18];
        for (int i = 0; i < 18; i++) {
            row[i] = x.talk(i / 9, i % 9);
        }
        return row;
    }

    private static void imagesStandApart() {
        BargeTalks x = Checks.told("plain 0 1;plain 0 1;talk 0 1 9;");
        x.keep(0);
        x.hours(3);
        x.keep(1);
        Checks.due("two images", x.count(1), 2);
        Checks.due("back to the first", x.back(0), 0);
        x.hours(1);
        Checks.due("back to the second", x.back(1), 3);
        Checks.due("said there", x.talk(0, 3), 3);
        Checks.due("the first once more", x.back(0), 0);
        Checks.due("nothing said there", x.talk(0, 3), 0);
        Checks.feed(x, "cut 1;");
        x.text();
        Checks.due("a faulty text leaves them", x.count(1), 2);
        Checks.feed(x, "cut 3;");
        x.text();
        Checks.due("a text takes them", x.count(1), 0);
        Checks.due("keep of a new one", x.keep(0), 0);
    }

    private static void sheetsAreMade() {
        BargeTalks x = new BargeTalks();
        int[][] wrong = {{-1, 0, 1}, {4, 0, 1}, {0, -1, 1}, {0, 3, 1}, {0, 0, 41}, {-1, 0, -1}, {0, 3, -1}};
        for (int[] w : wrong) {
            Checks.due("sheet " + w[0] + " " + w[1] + " " + w[2], x.sheet(w[0], w[1], w[2]), BAD);
        }
        Checks.due("size below 0", x.sheet(0, 0, -1), -14);
        Checks.due("nothing still", x.count(3), NONE);
        Checks.due("sheet of 40", x.sheet(0, 2, 40), 1);
        Checks.due("its cells", x.count(3), 40);
        Checks.due("size far below 0", x.sheet(0, 0, Integer.MIN_VALUE), -14);
        Checks.due("it stays", x.count(3), 40);
        Checks.due("sheet of 0", x.sheet(0, 1, 0), 1);
        Checks.due("its none", x.count(3), 0);
        Checks.due("sheet 3", x.sheet(3, 0, 7), 1);
        Checks.due("sheet 0 stays", x.count(3), 0);
    }

    private static void cellsAreLaid() {
        BargeTalks x = new BargeTalks();
        Checks.due("lay k -1", x.lay(-1, 0, 0), BAD);
        Checks.due("lay k 4", x.lay(4, 0, 0), BAD);
        Checks.due("lay on nothing", x.lay(1, 9, 0), -11);
        x.sheet(1, 1, 3);
        Checks.due("lay -1", x.lay(1, -1, 0), -12);
        Checks.due("lay 3", x.lay(1, 3, 0), -12);
        Checks.due("lay 2", x.lay(1, 2, 0), 1);
        Checks.due("lay 0", x.lay(1, 0, 0), 1);
        x.sheet(1, 1, 0);
        Checks.due("lay on none", x.lay(1, 0, 0), -12);
    }

    private static BargeTalks withSheet(int lane, int... cells) {
        BargeTalks x = Checks.told("plain 0 1;plain 0 1;plain 0 1;");
        x.sheet(2, lane, cells.length);
        for (int i = 0; i < cells.length; i++) {
            x.lay(2, i, cells[i]);
        }
        return x;
    }

    private static void talksAreRead() {
        for (int lane = 0; lane < 3; lane++) {
            BargeTalks x = withSheet(lane, 9, 0, 1, 20, 2, 1, 1);
            Checks.due("read of lane " + lane, x.read(2, lane, 1, 2), 2);
            Checks.due("torn", x.torn(), 0);
            Checks.due("talks", x.rule(1), 2);
            int[] due = {0, 1, 20, 2, 1, 1};
            for (int i = 0; i < 6; i++) {
                Checks.due("talk", x.talk(i / 3, i % 3), due[i]);
            }
            Checks.due("read none", x.read(2, lane, 99, 0), 0);
            Checks.due("torn of none", x.torn(), 0);
        }
        BargeTalks fresh = withSheet(0, 0, 1, 5);
        Checks.due("a new row", fresh.sheet(2, 0, 3), 1);
        fresh.lay(2, 1, 1);
        Checks.due("its need is 0", fresh.read(2, 0, 0, 1), -20);
        fresh.lay(2, 2, 1);
        Checks.due("its first barge is 0", fresh.read(2, 0, 0, 1), 1);
        fresh.sheet(3, 2, 40);
        for (int i = 0; i < 40; i++) {
            fresh.lay(3, i, 7);
        }
        fresh.sheet(3, 2, 40);
        for (int i = 1; i < 40; i++) {
            fresh.lay(3, i, i % 3 == 0 ? 0 : 1);
        }
        Checks.due("read of the last sheet", fresh.read(3, 2, 0, 1), 1);
        Checks.due("13 are too many", fresh.read(3, 2, 0, 13), -24);
        Checks.due("up to its last cell", fresh.read(3, 2, 36, 1), 1);
    }

    private static void lowestBits() {
        Checks.due("bytes of 257", withSheet(0, 256, 257, 261).read(2, 0, 0, 1), 1);
        Checks.due("bytes of 128 are below 0", withSheet(0, 0, 1, 128).read(2, 0, 0, 1), -20);
        Checks.due("shorts of 257", withSheet(1, 0, 257, 5).read(2, 1, 0, 1), -20);
        Checks.due("shorts of 65537", withSheet(1, 65536, 65537, -65531).read(2, 1, 0, 1), 1);
        Checks.due("ints of 65537", withSheet(2, 0, 65537, 5).read(2, 2, 0, 1), -20);
        Checks.due("ints", withSheet(2, 0, 1, 5).read(2, 2, 0, 1), 1);
    }

    private static void torn(BargeTalks x, int[] call, int came, int fault) {
        String name = "read " + call[0] + " " + call[1] + " " + call[2] + " " + call[3];
        int had = x.rule(1);
        Checks.due(name, x.read(call[0], call[1], call[2], call[3]), came);
        Checks.due(name + ", torn", x.torn(), fault);
        Checks.due(name + ", talks", x.rule(1), had + Math.max(0, came));
    }

    private static void tornSheets() {
        BargeTalks x = withSheet(1, 0, 1, 5, 1, 2, 6, 2, 0);
        torn(x, new int[] {2, 1, 0, 3}, 2, INDEX);
        torn(x, new int[] {2, 1, 5, 1}, -20, INDEX);
        torn(x, new int[] {2, 1, 6, 1}, 0, INDEX);
        torn(x, new int[] {2, 1, 8, 13}, 0, INDEX);
        torn(x, new int[] {2, 1, -1, 1}, 0, INDEX);
        torn(x, new int[] {2, 1, Integer.MIN_VALUE, 1}, 0, INDEX);
        torn(x, new int[] {2, 1, Integer.MAX_VALUE, 13}, 0, INDEX);
        torn(x, new int[] {2, 0, 0, 1}, 0, CAST);
        torn(x, new int[] {2, 2, 99, 1}, 0, CAST);
        torn(x, new int[] {0, 2, 99, 1}, 0, NULL);
    }

    private static void noTalksAreNeverTorn() {
        for (int lane = 0; lane < 3; lane++) {
            for (int as = 0; as < 3; as++) {
                for (int size : new int[] {0, 1, 3, 40}) {
                    noTalksOf(lane, as, size);
                }
            }
            BargeTalks x = new BargeTalks();
            torn(x, new int[] {1, lane, 0, 1}, 0, NULL);
            torn(x, new int[] {1, lane, 0, 0}, 0, 0);
        }
    }

    private static void noTalksOf(int lane, int as, int size) {
        for (int f : new int[] {Integer.MIN_VALUE, -1, 0, size, Integer.MAX_VALUE}) {
            BargeTalks x = new BargeTalks();
            x.sheet(3, lane, size);
            torn(x, new int[] {3, as, f, 0}, 0, 0);
            // Torn by another read first: that of no talks came to an end too, and tells of itself.
            torn(x, new int[] {3, (lane + 1) % 3, 0, 1}, 0, CAST);
            torn(x, new int[] {3, as, f, 0}, 0, 0);
        }
    }

    private static void refusedTalks() {
        BargeTalks x = withSheet(0, 0, 1, 5, 1, 2, 6, 2, 2, 1, 0, 1);
        Checks.due("the third is refused", x.read(2, 0, 0, 3), -22);
        Checks.due("none came", x.rule(1), 0);
        Checks.due("refused ahead of what is torn", x.read(2, 0, 0, 4), -22);
        Checks.due("two come", x.read(2, 0, 0, 2), 2);
        Checks.due("two come again", x.read(2, 0, 0, 2), 2);
        Checks.due("one comes", x.read(2, 0, 0, 1), 1);
        Checks.due("the second is one too many", x.read(2, 0, 0, 2), -21);
        Checks.due("five there are", x.rule(1), 5);
        Checks.due("the first of the next is the sixth", x.start(0, 2, 3), 6);
        Checks.due("its need", x.talk(5, 2), 3);
        Checks.due("full", x.read(2, 0, 0, 1), -20);
        int[][] wrong = {{-1, 0, 0, 1}, {4, 0, 0, 1}, {2, -1, 0, 1}, {2, 3, 0, 1}, {2, 0, 0, -1}, {2, 0, 0, 14}};
        for (int[] w : wrong) {
            Checks.due("read wrong", x.read(w[0], w[1], w[2], w[3]), BAD);
        }
    }

    private static void tornIsOfReadsThatEnd() {
        BargeTalks x = withSheet(0, 0, 1, 5, 1, 1, 6);
        x.read(2, 1, 0, 1);
        Checks.due("torn", x.torn(), CAST);
        x.read(2, 0, 0, 14);
        Checks.due("a wrong read leaves it", x.torn(), CAST);
        x.read(2, 0, 0, 2);
        Checks.due("a refused read leaves it", x.torn(), CAST);
        x.read(2, 0, 0, 1);
        Checks.due("a whole read clears it", x.torn(), 0);
        x.lay(3, 0, 0);
        Checks.due("laying does not count", x.torn(), 0);
    }

    private static void counts() {
        BargeTalks x = Checks.told("plain 0 9;plain 0 3;talk 0 1 20;talk 1 0 3;");
        Checks.due("count -1", x.count(-1), BAD);
        Checks.due("count 6", x.count(6), BAD);
        x.see(0, 0, 0);
        x.keep(0);
        x.feed(32);
        x.feed(32);
        x.sheet(0, 1, 13);
        int[] due = {1, 1, 2, 13, 12, 23};
        for (int w = 0; w < 6; w++) {
            Checks.due("count " + w, x.count(w), due[w]);
        }
    }
}
