/** Boundaries of promises 32 to 38: images, sheets and their faults, counts. */
public final class BoundsOfSheetsTest {
    private static final int BAD = -1, STATE = -2, NONE = -4;
    private static final int NULL = 1, INDEX = 2, CAST = 3;
    private static final int MIN = Integer.MIN_VALUE, MAX = Integer.MAX_VALUE;

    public static void main(String[] args) throws ReflectiveOperationException {
        Bounds.runAll(BoundsOfSheetsTest.class, 32, 38);
    }

    private static void due(String what, long got, long want) {
        Bounds.due(what, got, want);
    }

    // ---- promise 32

    static void promise32_keep_takesImages0And1() {
        Bounds.only(0, 1, Worlds::rich, (x, v) -> x.keep(v));
        Bounds.only(0, 1, BargeTalks::new, (x, v) -> x.keep(v));
        Bounds.only(0, 1, Worlds::full, (x, v) -> x.keep(v));
    }

    static void promise32_keep_tellsWhetherThereWasOne() {
        for (int k = 0; k < 2; k++) {
            BargeTalks x = Worlds.sixTalks();
            due("none", x.keep(k), 0);
            due("one", x.keep(k), 1);
            due("images", x.count(1), 1);
            due("none of the other", x.keep(1 - k), 0);
            due("images then", x.count(1), 2);
        }
    }

    static void promise32_keep_leavesAllElse() {
        BargeTalks x = Worlds.rich();
        BargeTalks twin = Worlds.rich();
        x.keep(0);
        for (int w = 0; w <= 7; w++) {
            due("rule", x.rule(w), twin.rule(w));
        }
        due("seen", x.count(0), 3);
        due("tape", x.count(2), twin.count(2));
        due("the other image", x.back(1), twin.back(1));
    }

    static void promise32_keep_inPlaceOfWhatWasKept() {
        BargeTalks x = Worlds.sixTalks();
        x.keep(0);
        x.hours(1);
        x.keep(0);
        x.hours(1);
        due("the latest", x.back(0), 1);
    }

    static void promise32_keep_ofNothing() {
        BargeTalks x = new BargeTalks();
        due("none", x.keep(1), 0);
        x.memory(3);
        x.hours(5);
        due("back", x.back(1), 0);
        due("memory", x.rule(4), 40);
        due("barges", x.rule(0), 0);
    }

    // ---- promise 33

    static void promise33_back_takesImages0And1() {
        Bounds.only(0, 1, Worlds::full, (x, v) -> x.back(v));
        Bounds.only(0, 1, BargeTalks::new, (x, v) -> x.back(v));
    }

    static void promise33_back_stateWhereThereIsNone() {
        Bounds.changesNothing("image 0", Worlds::rich, x -> x.back(0), STATE);
        Bounds.changesNothing("image 0 of a new one", BargeTalks::new, x -> x.back(0), STATE);
        Bounds.changesNothing("image 1 of a new one", BargeTalks::new, x -> x.back(1), STATE);
    }

    static void promise33_back_stateBehindATextThatIsTaken_notBehindOneAtFault() {
        BargeTalks x = Worlds.sixTalks();
        x.keep(0);
        x.feed('?');
        x.text();
        due("at fault", x.back(0), 0);
        x.text();
        due("taken", x.back(0), STATE);
    }

    static void promise33_back_toWhatIsNowChangesNothing() {
        Bounds.changesNothing("all is as the image", () -> {
            BargeTalks x = Worlds.rich();
            x.keep(0);
            return x;
        }, x -> x.back(0), 7);
    }

    static void promise33_back_asOftenAsOneLikes() {
        BargeTalks x = Worlds.rich();
        for (int i = 0; i < 3; i++) {
            due("hour", x.back(1), 3);
            x.hours(5);
            due("hour then", x.rule(2), 8);
        }
    }

    static void promise33_back_allIsAsItWas() {
        BargeTalks x = Worlds.full();
        BargeTalks twin = Worlds.full();
        x.hours(100);
        x.memory(1);
        for (int b = 0; b < 5; b++) {
            x.alter(b, 0, 3 - b % 4);
            x.alter(b, 1, 15);
            x.alter(b, 2, 8);
        }
        x.cut(0);
        x.start(1, 0, 7);
        x.forget(0);
        x.see(0, 0, 0);
        due("hour", x.back(1), 0);
        for (int w = 0; w <= 7; w++) {
            due("rule " + w, x.rule(w), twin.rule(w));
        }
        for (int i = 0; i < 25; i++) {
            due("barge", x.barge(i / 5, i % 5), twin.barge(i / 5, i % 5));
        }
        for (int i = 0; i < 54; i++) {
            due("talk", x.talk(i / 9, i % 9), twin.talk(i / 9, i % 9));
        }
        due("seen", x.count(0), 6);
        due("as seen", x.kinds(0), twin.kinds(0));
        due("by pace", x.paces(1), twin.paces(1));
    }

    static void promise33_back_whatWasSeen_upToTheSixth() {
        BargeTalks x = Checks.told(Worlds.TOGETHER + "talk 0 1 20;talk 1 0 20;");
        for (int i = 0; i < 5; i++) {
            x.see(0, 0, 0);
        }
        x.see(1, 1, 2);
        due("quick", x.kinds(1), 2);
        x.keep(0);
        x.forget(0);
        for (int i = 0; i < 6; i++) {
            x.see(2, 0, i == 5 ? 2 : 20);
        }
        due("never", x.kinds(1), 0);
        x.keep(1);
        x.back(0);
        due("quick again", x.kinds(1), 2);
        x.forget(5);
        due("by the first five: any", x.kinds(1), 15);
        x.back(1);
        due("never again", x.kinds(1), 0);
    }

    static void promise33_back_leavesTheTapeTheSheetsAndTheFaults() {
        BargeTalks x = Worlds.rich();
        int bytes = x.count(2);
        x.back(1);
        due("tape", x.count(2), bytes);
        due("cells", x.count(3), 6);
        due("torn", x.torn(), INDEX);
        due("fault", x.fault(), 3);
    }

    static void promise33_back_fromTheLastHourToTheFirst_andAgain() {
        BargeTalks x = Worlds.lastHour();
        x.keep(1);
        due("9999", x.back(1), 9999);
        due("full", x.hours(1), -3);
        BargeTalks y = Worlds.sixTalks();
        y.keep(0);
        for (int i = 0; i < 99; i++) {
            y.hours(100);
        }
        y.hours(99);
        due("0", y.back(0), 0);
        due("an hour", y.hours(1) >= 0 ? 1 : 0, 1);
    }

    // ---- promise 34

    static void promise34_sheet_takesSheets0To3() {
        Bounds.only(0, 3, Worlds::rich, (x, v) -> x.sheet(v, 0, 5));
    }

    static void promise34_sheet_takesLanes0To2() {
        Bounds.only(0, 2, Worlds::rich, (x, v) -> x.sheet(0, v, 5));
    }

    static void promise34_sheet_takes0To40Cells() {
        for (int n = 0; n <= 40; n++) {
            BargeTalks x = Worlds.rich();
            due(n + " cells", x.sheet(0, 2, n), 1);
            due("how many", x.count(3), n);
        }
        for (int n : new int[] {41, 42, 256, 65536, MAX}) {
            Bounds.bad(n + " cells", Worlds::rich, x -> x.sheet(0, 2, n));
        }
    }

    static void promise34_sheet_below0CellsIsTheFaultSize() {
        for (int n : new int[] {-1, -2, -40, MIN}) {
            Bounds.changesNothing(n + " cells", Worlds::rich, x -> x.sheet(0, 0, n), -14);
            Bounds.changesNothing(n + " cells of nothing", BargeTalks::new, x -> x.sheet(3, 2, n), -14);
        }
    }

    static void promise34_sheet_aWrongSheetOrLaneIsBad_alsoBelow0Cells() {
        Bounds.bad("sheet -1", Worlds::rich, x -> x.sheet(-1, 0, -1));
        Bounds.bad("sheet 4", Worlds::rich, x -> x.sheet(4, 0, -1));
        Bounds.bad("lane -1", Worlds::rich, x -> x.sheet(0, -1, -1));
        Bounds.bad("lane 3", Worlds::rich, x -> x.sheet(0, 3, -1));
    }

    static void promise34_sheet_isANewRowOfCells0() {
        BargeTalks x = Worlds.fiveBarges();
        int[] sevens = new int[40];
        java.util.Arrays.fill(sevens, 7);
        Worlds.layAll(x, 3, 2, sevens);
        x.sheet(3, 2, 40);
        for (int f = 0; f < 36; f += 3) {
            x.lay(3, f + 1, 1);
            x.lay(3, f + 2, 1);
            due("first barge is 0", x.read(3, 2, f, 1), 1);
            due("it is", x.talk(0, 0), 0);
            x.cut(0);
        }
    }

    static void promise34_sheet_aShorterRowForgetsWhatWasBehind() {
        BargeTalks x = Worlds.fiveBarges();
        Worlds.layAll(x, 0, 0, 0, 1, 5, 1, 2, 6);
        x.sheet(0, 0, 3);
        due("behind it", x.lay(0, 3, 1), -12);
        x.sheet(0, 0, 6);
        x.lay(0, 4, 1);
        due("need is 0 now", x.read(0, 0, 3, 1), -20);
    }

    static void promise34_sheet_ofAnotherLaneInPlace() {
        BargeTalks x = Worlds.fiveBarges();
        Worlds.layAll(x, 1, 0, 0, 1, 5);
        Worlds.layAll(x, 1, 2, 0, 1, 5);
        due("as of the old lane", x.read(1, 0, 0, 1), 0);
        due("cast", x.torn(), CAST);
        due("as of the new lane", x.read(1, 2, 0, 1), 1);
    }

    static void promise34_sheet_leavesTheOtherSheets() {
        BargeTalks x = Worlds.rich();
        x.sheet(1, 2, 40);
        x.sheet(3, 2, 40);
        due("sheet 0", x.count(3), 6);
        due("read of it", x.read(0, 0, 0, 2), 2);
    }

    // ---- promise 35

    static void promise35_lay_takesSheets0To3() {
        Bounds.only(0, 3, Worlds::full, (x, v) -> x.lay(v, 0, 0));
        for (int k : new int[] {-1, 4}) {
            Bounds.bad("sheet " + k + ", far cell", Worlds::full, x -> x.lay(k, 99, 0));
        }
    }

    static void promise35_lay_onNothingIsTheFaultNull_whateverTheCell() {
        for (int i : new int[] {MIN, -1, 0, 1, 40, MAX}) {
            Bounds.changesNothing("cell " + i, Worlds::rich, x -> x.lay(3, i, 1), -11);
        }
    }

    static void promise35_lay_takesCellsThatThereAre_elseTheFaultIndex() {
        for (int size : new int[] {1, 2, 3, 39, 40}) {
            BargeTalks x = new BargeTalks();
            x.sheet(2, 1, size);
            due("first of " + size, x.lay(2, 0, 1), 1);
            due("last of " + size, x.lay(2, size - 1, 1), 1);
            for (int i : new int[] {MIN, -1, size, size + 1, MAX}) {
                due("cell " + i + " of " + size, x.lay(2, i, 1), -12);
            }
        }
        for (int i : new int[] {MIN, -1, 6, MAX}) {
            Bounds.changesNothing("cell " + i, Worlds::rich, x -> x.lay(0, i, 1), -12);
        }
    }

    static void promise35_lay_noCellOfNone() {
        for (int i : new int[] {-1, 0, 1}) {
            Bounds.changesNothing("cell " + i, Worlds::rich, x -> x.lay(2, i, 1), -12);
        }
    }

    /** Whether a talk of barges 0 and 1 with this need comes, and with which one it does. */
    private static void need(int lane, int laid, int need) {
        BargeTalks x = Worlds.together();
        Worlds.layAll(x, 0, lane, 0, 1, laid);
        due("lane " + lane + " of " + laid, x.read(0, lane, 0, 1), need > 0 ? 1 : -20);
        due("need", x.talk(0, 2), need > 0 ? need : BAD);
    }

    static void promise35_lay_bytesKeepTheLowest8Bits() {
        need(0, 20, 20);
        need(0, 255, 0);
        need(0, 256, 0);
        need(0, 257, 1);
        need(0, 276, 20);
        need(0, 277, 0);
        need(0, -236, 20);
        need(0, -255, 1);
        need(0, 127, 0);
        need(0, 128, 0);
        need(0, 65537, 1);
        need(0, MIN + 1, 1);
        need(0, MAX, 0);
    }

    static void promise35_lay_shortsKeepTheLowest16Bits() {
        need(1, 20, 20);
        need(1, 257, 0);
        need(1, 65535, 0);
        need(1, 65536, 0);
        need(1, 65537, 1);
        need(1, 65556, 20);
        need(1, -65516, 20);
        need(1, 32768, 0);
        need(1, MIN + 20, 20);
    }

    static void promise35_lay_intsKeepAll() {
        need(2, 20, 20);
        need(2, 1, 1);
        need(2, 257, 0);
        need(2, 65537, 0);
        need(2, MIN + 1, 0);
        need(2, MAX, 0);
    }

    static void promise35_lay_noOtherCell_noOtherSheet() {
        BargeTalks x = Worlds.rich();
        x.lay(0, 3, 1);
        x.lay(1, 2, 8);
        due("sheet 0", x.read(0, 0, 0, 2), 2);
        int[] due = {0, 1, 5, 1, 0, 20};
        for (int i = 0; i < 6; i++) {
            due("cell " + i, x.talk(3 + i / 3, i % 3), due[i]);
        }
    }

    // ---- promise 36

    static void promise36_read_takesSheets0To3() {
        Bounds.only(0, 3, Worlds::rich, (x, v) -> x.read(v, 0, 0, 1));
    }

    static void promise36_read_takesLanes0To2() {
        Bounds.only(0, 2, Worlds::rich, (x, v) -> x.read(0, v, 0, 1));
    }

    static void promise36_read_takes0To13Talks() {
        Bounds.only(0, 13, Worlds::rich, (x, v) -> x.read(0, 0, 0, v));
        Bounds.only(0, 13, Worlds::rich, (x, v) -> x.read(3, 0, 0, v));
    }

    static void promise36_read_aWrongNumberIsBad_alsoWhereTheMachineWouldRefuse() {
        Bounds.bad("sheet 4 as of lane 1", Worlds::rich, x -> x.read(4, 1, 99, 1));
        Bounds.bad("lane 3 of nothing", Worlds::rich, x -> x.read(3, 3, 0, 1));
        Bounds.bad("14 of nothing", Worlds::rich, x -> x.read(3, 0, 0, 14));
        Bounds.bad("-1 of nothing", Worlds::rich, x -> x.read(3, 0, 0, -1));
    }

    /** A read and what it leaves: how many came, the fault, how many talks there are. */
    private static void read(BargeTalks x, int[] call, int came, int fault, int talks) {
        String name = "read " + call[0] + " " + call[1] + " " + call[2] + " " + call[3];
        due(name, x.read(call[0], call[1], call[2], call[3]), came);
        due(name + ", torn", x.torn(), fault);
        due(name + ", talks", x.rule(1), talks);
    }

    static void promise36_read_ofNoTalksIsWhole_whateverTheSheet() {
        for (int k = 0; k < 4; k++) {
            for (int lane = 0; lane < 3; lane++) {
                for (int f : new int[] {MIN, -1, 0, 6, 40, MAX}) {
                    read(Worlds.rich(), new int[] {k, lane, f, 0}, 0, 0, 3);
                }
            }
        }
    }

    static void promise36_read_ofNothingIsTheFaultNull_asOfAnyLane() {
        for (int lane = 0; lane < 3; lane++) {
            for (int f : new int[] {MIN, -1, 0, 40, MAX}) {
                read(Worlds.rich(), new int[] {3, lane, f, 1}, 0, NULL, 3);
                read(Worlds.rich(), new int[] {3, lane, f, 13}, 0, NULL, 3);
            }
        }
    }

    static void promise36_read_asOfAnotherLaneIsTheFaultCast() {
        for (int lane = 0; lane < 3; lane++) {
            for (int as = 0; as < 3; as++) {
                BargeTalks x = Worlds.fiveBarges();
                Worlds.layAll(x, 1, lane, 0, 1, 5);
                read(x, new int[] {1, as, 0, 1}, lane == as ? 1 : 0, lane == as ? 0 : CAST, lane == as ? 1 : 0);
            }
        }
    }

    static void promise36_read_castComesAheadOfIndex() {
        read(Worlds.rich(), new int[] {0, 1, 99, 1}, 0, CAST, 3);
        read(Worlds.rich(), new int[] {2, 0, 0, 1}, 0, CAST, 3);
    }

    static void promise36_read_aSheetOf0CellsIsTheFaultIndex() {
        read(Worlds.rich(), new int[] {2, 2, 0, 1}, 0, INDEX, 3);
        read(Worlds.rich(), new int[] {2, 2, 0, 13}, 0, INDEX, 3);
    }

    /** Sheet 0 of so many cells, each three of which are a talk of barges 0 and 1. */
    private static BargeTalks withCells(int n) {
        BargeTalks x = Worlds.together();
        int[] cells = new int[n];
        for (int i = 0; i < n; i++) {
            cells[i] = i % 3 == 0 ? 0 : i % 3 == 1 ? 1 : 1 + i / 3;
        }
        Worlds.layAll(x, 0, 2, cells);
        return x;
    }

    static void promise36_read_fromCell0_fromTheLastThree_fromOneBehind() {
        read(withCells(3), new int[] {0, 2, 0, 1}, 1, 0, 1);
        read(withCells(3), new int[] {0, 2, -1, 1}, 0, INDEX, 0);
        read(withCells(3), new int[] {0, 2, 1, 1}, 0, INDEX, 0);
        read(withCells(3), new int[] {0, 2, 2, 1}, 0, INDEX, 0);
        read(withCells(3), new int[] {0, 2, 3, 1}, 0, INDEX, 0);
        read(withCells(39), new int[] {0, 2, 36, 1}, 1, 0, 1);
        read(withCells(39), new int[] {0, 2, 37, 1}, 0, INDEX, 0);
        read(withCells(40), new int[] {0, 2, 39, 1}, 0, INDEX, 0);
        read(withCells(40), new int[] {0, 2, 40, 1}, 0, INDEX, 0);
    }

    static void promise36_read_fromFarCells() {
        for (int f : new int[] {MIN, MIN + 1, MIN + 2, -3, -2, MAX - 2, MAX - 1, MAX}) {
            read(withCells(40), new int[] {0, 2, f, 1}, 0, INDEX, 0);
            read(withCells(40), new int[] {0, 2, f, 13}, 0, INDEX, 0);
        }
    }

    static void promise36_read_aTalkOfTwoCellsIsNotWhole_thoseAheadCame() {
        read(withCells(2), new int[] {0, 2, 0, 1}, 0, INDEX, 0);
        read(withCells(5), new int[] {0, 2, 0, 2}, 1, INDEX, 1);
        read(withCells(6), new int[] {0, 2, 0, 2}, 2, 0, 2);
        read(withCells(6), new int[] {0, 2, 0, 3}, 2, INDEX, 2);
        read(withCells(7), new int[] {0, 2, 0, 3}, 2, INDEX, 2);
        read(withCells(8), new int[] {0, 2, 3, 2}, 1, INDEX, 1);
    }

    static void promise36_read_threeCellsEach_oneBehindAnother() {
        BargeTalks x = withCells(40);
        due("six", x.read(0, 2, 3, 6), 6);
        for (int t = 0; t < 6; t++) {
            due("first", x.talk(t, 0), 0);
            due("second", x.talk(t, 1), 1);
            due("need", x.talk(t, 2), t + 2);
            due("said", x.talk(t, 3), 0);
        }
    }

    static void promise36_read_6Come_the7thWholeIsRefused_the7thTornIsNot() {
        read(withCells(18), new int[] {0, 2, 0, 6}, 6, 0, 6);
        read(withCells(18), new int[] {0, 2, 0, 7}, 6, INDEX, 6);
        read(withCells(20), new int[] {0, 2, 0, 13}, 6, INDEX, 6);
        read(withCells(21), new int[] {0, 2, 0, 7}, -26, 0, 0);
        read(withCells(40), new int[] {0, 2, 0, 13}, -26, 0, 0);
        read(withCells(40), new int[] {0, 2, 1, 13}, -20, 0, 0);
    }

    static void promise36_read_whereThereAre6TheFirstIsRefused() {
        Bounds.changesNothing("the first", Worlds::full, x -> x.read(0, 0, 0, 1), -20);
        Bounds.changesNothing("13", Worlds::full, x -> x.read(0, 0, 0, 13), -20);
        due("torn is not refused", Worlds.full().read(0, 0, 38, 1), 0);
    }

    static void promise36_read_whereThereAre5TheSecondIsRefused_andTheFirstDidNotCome() {
        Bounds.changesNothing("the second", () -> {
            BargeTalks x = withCells(40);
            for (int t = 0; t < 5; t++) {
                x.start(1, 0, 20 - t);
            }
            return x;
        }, x -> x.read(0, 2, 0, 2), -21);
    }

    /** Two talks that are whole, then one with this fault of its own. */
    private static void refused(int a, int b, int need) {
        Bounds.changesNothing("third of " + a + " " + b + " " + need, () -> {
            BargeTalks x = Worlds.fiveBarges();
            Worlds.layAll(x, 2, 1, 0, 1, 1, 4, 3, 20, a, b, need, 0, 0);
            x.start(3, 2, 9);
            return x;
        }, x -> x.read(2, 1, 0, 4), -22);
    }

    static void promise36_read_refusedAsByStart_thenNoneCame() {
        refused(-1, 0, 1);
        refused(5, 0, 1);
        refused(0, -1, 1);
        refused(0, 5, 1);
        refused(2, 2, 1);
        refused(0, 1, 0);
        refused(0, 1, 21);
    }

    static void promise36_read_theFirstMet_tornOrRefused() {
        BargeTalks x = Worlds.fiveBarges();
        Worlds.layAll(x, 0, 0, 0, 1, 1, 2, 2, 1, 0, 0);
        due("refused ahead of torn", x.read(0, 0, 0, 3), -21);
        due("torn: not whole, so not refused", x.read(0, 0, 6, 1), 0);
        due("fault", x.torn(), INDEX);
        due("talks", x.rule(1), 0);
    }

    static void promise36_read_withoutBargesTheFirstIsRefused() {
        BargeTalks x = new BargeTalks();
        Worlds.layAll(x, 0, 0, 0, 1, 1);
        due("read", x.read(0, 0, 0, 1), -20);
        due("none", x.read(0, 0, 0, 0), 0);
    }

    static void promise36_read_leavesTheSheetAsItIs() {
        BargeTalks x = withCells(6);
        for (int i = 0; i < 3; i++) {
            due("two more", x.read(0, 2, 0, 2), 2);
        }
        due("seventh", x.read(0, 2, 0, 1), -20);
        due("cells", x.count(3), 6);
    }

    // ---- promise 37

    static void promise37_torn_is0AtFirst() {
        due("new", new BargeTalks().torn(), 0);
    }

    static void promise37_torn_nullIndexCast_then0BehindAWholeOne() {
        BargeTalks x = withCells(3);
        read(x, new int[] {1, 2, 0, 1}, 0, NULL, 0);
        read(x, new int[] {0, 2, 1, 1}, 0, INDEX, 0);
        read(x, new int[] {0, 1, 0, 1}, 0, CAST, 0);
        read(x, new int[] {0, 2, 0, 1}, 1, 0, 1);
        read(x, new int[] {0, 2, 0, 2}, 1, INDEX, 2);
        read(x, new int[] {0, 2, 0, 0}, 0, 0, 2);
    }

    static void promise37_torn_aReadThatIsBadLeavesIt() {
        BargeTalks x = withCells(3);
        x.read(0, 1, 0, 1);
        for (int wrong : new int[] {MIN, -1, 14, MAX}) {
            due("read", x.read(0, 2, 0, wrong), BAD);
            due("torn", x.torn(), CAST);
            due("sheet", x.read(wrong, 2, 0, 0), BAD);
            due("torn still", x.torn(), CAST);
        }
    }

    static void promise37_torn_aReadThatIsRefusedLeavesIt() {
        BargeTalks x = withCells(3);
        x.lay(0, 2, 0);
        x.read(0, 1, 0, 1);
        due("refused", x.read(0, 2, 0, 1), -20);
        due("torn", x.torn(), CAST);
    }

    static void promise37_torn_faultsOfLayAndSheetDoNotCount() {
        BargeTalks x = new BargeTalks();
        due("null", x.lay(0, 0, 0), -11);
        due("torn", x.torn(), 0);
        due("size", x.sheet(0, 0, -1), -14);
        due("torn", x.torn(), 0);
        x.sheet(0, 0, 1);
        due("index", x.lay(0, 1, 0), -12);
        due("torn", x.torn(), 0);
    }

    static void promise37_torn_asksChangeNothing() {
        Bounds.changesNothing("torn", Worlds::rich, x -> x.torn(), INDEX);
        Bounds.changesNothing("fault", Worlds::rich, x -> x.fault(), 3);
    }

    // ---- promise 38

    static void promise38_count_takes0To5() {
        Bounds.only(0, 5, Worlds::rich, (x, v) -> x.count(v));
        Bounds.only(0, 5, BargeTalks::new, (x, v) -> x.count(v));
    }

    static void promise38_count_changesNothing() {
        for (int w = 0; w <= 5; w++) {
            int what = w;
            Bounds.changesNothing("what " + w, Worlds::rich, x -> x.count(what), Worlds.rich().count(w));
        }
    }

    static void promise38_count_ofNothing_ofAllThatThereMayBe() {
        int[] none = {0, 0, 0, NONE, 0, 0};
        int[] most = {6, 2, 160, 40, 19, 105};
        for (int w = 0; w <= 5; w++) {
            due("none " + w, new BargeTalks().count(w), none[w]);
            due("most " + w, Worlds.full().count(w), most[w]);
        }
    }

    static void promise38_count3_noneOfNothing_0OfNone_40AtMost() {
        BargeTalks x = new BargeTalks();
        x.sheet(1, 0, 7);
        x.sheet(2, 0, 8);
        x.sheet(3, 0, 9);
        due("nothing", x.count(3), NONE);
        x.sheet(0, 0, 0);
        due("0", x.count(3), 0);
        x.sheet(0, 1, 1);
        due("1", x.count(3), 1);
        x.sheet(0, 2, 40);
        due("40", x.count(3), 40);
    }

    static void promise38_count4And5_leastAndMost() {
        BargeTalks least = Checks.told("plain 0 1;plain 0 1;talk 0 1 1;");
        due("paces", least.count(4), 2);
        due("needs", least.count(5), 1);
        BargeTalks most = Checks.told("shy 0 9;shy 0 9;shy 0 9;shy 0 9;shy 0 9;");
        for (int t = 0; t < 6; t++) {
            most.start(0, 1, 20);
        }
        due("paces", most.count(4), 45);
        due("needs", most.count(5), 120);
        most.cut(0);
        due("needs of none", most.count(5), 0);
    }
}
