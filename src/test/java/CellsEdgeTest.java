/**
 * Promises 6 to 8, and what block 2 of the terms says of one moment (at first, BEARS, FLOE): each
 * sentence that names a boundary has a test of its own here, on both sides of it.
 */
public final class CellsEdgeTest {
    private static final int N = Due.NONE;
    private static final int[] FAR = {Integer.MIN_VALUE, -65536, -100, -5, -4, -3, -2, -1, 100,
        65536, Integer.MAX_VALUE};

    public static void main(String[] args) {
        cellIsOneThatThereIs();
        cellTellsSixThings();
        cellOfNobodyIsNone();
        theMapHasAllCellsChannelsToo();
        familiesAre0To3();
        familyTellsThreeThings();
        theLargestIs0Without();
        coldIsOfDays0To199();
        coldIsOfTheDayNotFromNowOn();
        aChannelHas9InchesAtMostAtFirst();
        aCellWithIceIsWhoseItIsOnTheMap();
        aChannelIsNobodysAtFirst();
        anEighthOfTheSumIsCut();
        halfOfReedsIsCut();
        withoutIceACellBearsNothing();
        theMostThatACellBears();
        besideAreUpDownRightLeft();
        aFloeHasNoCornersAndNoRowsEnds();
        aFloeIsOfOneFamily();
        aFloeOfTheWholeRiver();
        Due.end();
    }

    private static IceInherited aRiver() {
        return Due.laid("r2,3;k1,1;k5,2;f0,0,4;f1,4,5;i6;d23;d15;l1;");
    }

    private static void cellIsOneThatThereIs() {
        for (int rows = 2; rows <= 7; rows++) {
            for (int columns = 2; columns <= 7; columns++) {
                IceInherited ice = Due.laid("r" + rows + "," + columns + ";f1,0,0;");
                int last = rows * columns - 1;
                int[] firsts = {0, 3, 1, 1, 3, 1};
                for (int what = 0; what <= 5; what++) {
                    Due.due("the first", ice.cell(0, what), firsts[what]);
                    Due.due("ahead of the first", ice.cell(-1, what), Due.BAD);
                    Due.dueTrue("the last", ice.cell(last, what) != Due.BAD);
                    Due.due("behind the last", ice.cell(last + 1, what), Due.BAD);
                }
            }
        }
        for (int x : FAR) {
            Twins.dueRefused("cell(" + x + ", 1)", CellsEdgeTest::aRiver,
                    ice -> ice.cell(x, 1), Due.BAD);
        }
    }

    private static void cellTellsSixThings() {
        IceInherited ice = aRiver();
        int[] wants = {1, 6, 0, 0, 8, 3};
        for (int what = 0; what <= 5; what++) {
            Due.due("cell(1, " + what + ")", ice.cell(1, what), wants[what]);
        }
        Twins.dueRefused("cell(1, 6)", CellsEdgeTest::aRiver, river -> river.cell(1, 6), Due.BAD);
        for (int what : FAR) {
            Twins.dueRefused("cell(1, " + what + ")", CellsEdgeTest::aRiver,
                    river -> river.cell(1, what), Due.BAD);
        }
    }

    private static void cellOfNobodyIsNone() {
        IceInherited ice = Due.laid("r2,2;f0,0,1;");
        Due.dueCells("whose", ice, 2, 0, 0, N, N);
        Due.dueCells("whose on the map", ice, 3, 0, 0, N, N);
        Due.dueCells("its floe", ice, 5, 2, 2, 0, 0);
        ice.saw(0);
        Due.dueCells("whose", ice, 2, N, 0, N, N);
        Due.dueCells("whose on the map still", ice, 3, 0, 0, N, N);
        Due.dueCells("its floe", ice, 5, 0, 1, 0, 0);
        Twins.dueRefused("cell of nobody", CellsEdgeTest::aRiver, river -> river.cell(5, 2), N);
    }

    private static void theMapHasAllCellsChannelsToo() {
        for (int law = 0; law <= 2; law++) {
            IceInherited ice = Due.laid("r2,3;k1,2;k5,2;f1,0,1;f2,4,4;i1;d15;d40;l" + law + ";");
            for (int day = 0; day <= 4; day++) {
                Due.dueCells("on the map on day " + day, ice, 3, 1, 1, N, N, 2, N);
                Due.due("a channel of the map", ice.cell(1, 2), N);
                Due.due("a channel of none", ice.cell(5, 2), N);
                ice.pass(1);
            }
            ice.saw(1);
            Due.dueCells("on the map, sawn", ice, 3, 1, 1, N, N, 2, N);
        }
        IceInherited later = Due.laid("r2,2;f3,0,3;f0,2,3;k0,2;k3,2;");
        Due.dueCells("a kind told behind the map", later, 3, 3, 3, 0, 0);
        Due.dueCells("whose", later, 2, N, 3, 0, N);
    }

    private static void familiesAre0To3() {
        IceInherited ice = Due.laid("r2,2;f0,0,0;f3,1,3;");
        Due.due("family(0, 0)", ice.family(0, 0), 1);
        Due.due("family(3, 0)", ice.family(3, 0), 2);
        for (int what = 0; what <= 2; what++) {
            Due.due("family(1, " + what + ")", ice.family(1, what), 0);
            Due.due("family(4, " + what + ")", ice.family(4, what), Due.BAD);
            Due.due("family(-1, " + what + ")", ice.family(-1, what), Due.BAD);
        }
        Twins.dueRefused("family(4, 1)", CellsEdgeTest::aRiver, river -> river.family(4, 1),
                Due.BAD);
        for (int f : FAR) {
            Twins.dueRefused("family(" + f + ", 0)", CellsEdgeTest::aRiver,
                    river -> river.family(f, 0), Due.BAD);
        }
    }

    private static void familyTellsThreeThings() {
        IceInherited ice = Due.laid("r2,5;f0,0,4;f1,2,2;");
        Due.due("cells", ice.family(0, 0), 4);
        Due.due("floes", ice.family(0, 1), 2);
        Due.due("the largest one", ice.family(0, 2), 2);
        Twins.dueRefused("family(0, 3)", CellsEdgeTest::aRiver, river -> river.family(0, 3),
                Due.BAD);
        for (int what : FAR) {
            Twins.dueRefused("family(0, " + what + ")", CellsEdgeTest::aRiver,
                    river -> river.family(0, what), Due.BAD);
        }
    }

    private static void theLargestIs0Without() {
        IceInherited ice = Due.laid("r2,2;f2,0,0;");
        Due.due("of one", ice.family(2, 0), 1);
        Due.due("of one", ice.family(2, 1), 1);
        Due.due("of one", ice.family(2, 2), 1);
        ice.saw(0);
        Due.due("of none", ice.family(2, 0), 0);
        Due.due("of none", ice.family(2, 1), 0);
        Due.due("of none", ice.family(2, 2), 0);
        // Each of the three asked alone, of one family and then of another.
        IceInherited alone = Due.laid("r2,5;f0,0,4;f1,2,2;f3,5,5;f3,7,7;f3,9,9;");
        int[][] rows = {{4, 2, 2}, {1, 1, 1}, {0, 0, 0}, {3, 3, 1}};
        for (int what = 0; what <= 2; what++) {
            for (int f = 0; f <= 3; f++) {
                Due.due("family(" + f + ", " + what + ")", alone.family(f, what), rows[f][what]);
            }
        }
    }

    private static void coldIsOfDays0To199() {
        IceInherited ice = Due.laid("d11;d12;d13;");
        Due.due("cold(0)", ice.cold(0), 11);
        Due.due("cold(2)", ice.cold(2), 13);
        Due.due("cold(3)", ice.cold(3), 11);
        Due.due("cold(198)", ice.cold(198), 11);
        Due.due("cold(199)", ice.cold(199), 12);
        Twins.dueRefused("cold(200)", CellsEdgeTest::aRiver, river -> river.cold(200), Due.BAD);
        for (int t : new int[] {-1, -2, -3, 201, 1000, Integer.MIN_VALUE, Integer.MAX_VALUE}) {
            Twins.dueRefused("cold(" + t + ")", CellsEdgeTest::aRiver, river -> river.cold(t),
                    Due.BAD);
        }
    }

    private static void coldIsOfTheDayNotFromNowOn() {
        IceInherited ice = Due.laid("r2,2;d0;d40;d30;");
        for (int day = 0; day < 4; day++) {
            Due.due("cold(0)", ice.cold(0), 0);
            Due.due("cold(1)", ice.cold(1), 40);
            Due.due("cold(2)", ice.cold(2), 30);
            ice.pass(1);
        }
    }

    private static void aChannelHas9InchesAtMostAtFirst() {
        int[][] rows = {{8, 8}, {9, 9}, {10, 9}, {40, 9}, {0, 0}};
        for (int[] row : rows) {
            IceInherited ice = Due.laid("r2,2;k0,2;k1,1;k2,3;i" + row[0] + ";");
            Due.dueCells("i" + row[0], ice, 1, row[1], row[0], row[0], row[0]);
        }
    }

    private static void aCellWithIceIsWhoseItIsOnTheMap() {
        Due.dueCells("an inch", Due.laid("r2,2;f0,0,1;f3,3,3;i1;"), 2, 0, 0, N, 3);
        Due.dueCells("none", Due.laid("r2,2;f0,0,1;f3,3,3;i0;"), 2, N, N, N, N);
        for (int law = 0; law <= 2; law++) {
            IceInherited ice = Due.laid("r2,2;f0,0,1;f3,3,3;i1;l" + law + ";");
            Due.dueCells("under each law", ice, 2, 0, 0, N, 3);
            Due.due("somebody's", ice.count(5), 3);
        }
    }

    private static void aChannelIsNobodysAtFirst() {
        for (int kind = 0; kind <= 3; kind++) {
            IceInherited ice = Due.laid("r2,2;f1,0,3;k0," + kind + ";");
            int whose = kind == 2 ? N : 1;
            Due.dueCells("kind " + kind, ice, 2, whose, 1, 1, 1);
            Due.dueCells("kind " + kind, ice, 5, kind == 2 ? 0 : 4, kind == 2 ? 3 : 4,
                    kind == 2 ? 3 : 4, kind == 2 ? 3 : 4);
            Due.due("somebody's", ice.count(5), kind == 2 ? 3 : 4);
            Due.due("with ice", ice.count(4), 4);
        }
    }

    private static void anEighthOfTheSumIsCut() {
        // Two beside a corner: 6 inches, then 8.
        Due.dueCells("6", Due.laid("r2,2;i3;"), 4, 3, 3, 3, 3);
        Due.dueCells("8", Due.laid("r2,2;i4;"), 4, 5, 5, 5, 5);
        Due.dueCells("14", Due.laid("r2,2;i7;"), 4, 8, 8, 8, 8);
        Due.dueCells("16", Due.laid("r2,2;i8;"), 4, 10, 10, 10, 10);
        // A flowing one grows an inch less: 4 and 3 are 7, 4 and 4 are 8.
        IceInherited ice = Due.laid("r2,2;k1,1;i3;d21;");
        ice.pass(1);
        Due.dueCells("4 3 4 4", ice, 1, 4, 3, 4, 4);
        Due.dueCells("7 and 8", ice, 4, 4, 4, 5, 4);
        // 15 and 16: 8 and 7 beside, or 8 and 8.
        ice = Due.laid("r2,2;k1,1;i7;d21;");
        ice.pass(1);
        Due.dueCells("15 and 16", ice, 4, 9, 9, 10, 9);
        // Three beside the middle: 3 times 5 are 15; four: 4 times 2 are 8, of 1 each 4.
        Due.dueCells("15", Due.laid("r2,3;i5;"), 4, 6, 6, 6, 6, 6, 6);
        Due.due("4 of 2", Due.laid("r3,3;i2;").cell(4, 4), 3);
        Due.due("3 of 2", Due.laid("r3,3;i2;").cell(1, 4), 2);
        Due.due("4 of 1", Due.laid("r3,3;i1;").cell(4, 4), 1);
        // One eighth of the sum, not of each one: 7 and 7 are 14.
        Due.due("7 and 7", Due.laid("r2,2;i7;").cell(0, 4), 8);
    }

    private static void halfOfReedsIsCut() {
        int[][] rows = {{1, 0}, {2, 1}, {3, 1}, {4, 2}, {5, 3}, {6, 3}, {7, 4}, {8, 5}, {40, 25}};
        for (int[] row : rows) {
            IceInherited ice = Due.laid("r2,2;k0,3;f1,0,3;i" + row[0] + ";");
            Due.due("reeds of i" + row[0], ice.cell(0, 4), row[1]);
            Due.due("an inch is ice", ice.cell(0, 2), 1);
        }
        // Half of all that: 7 and an eighth of 8 are 8, of which half is 4, not 3 and 1.
        IceInherited ice = Due.laid("r2,2;k0,3;k3,2;i7;");
        Due.due("half of both together", ice.cell(0, 4), 4);
        Due.due("one inch of reeds bears none", Due.laid("r2,2;k0,3;i1;").falls(0, 1), 0);
        Due.due("two do", Due.laid("r2,2;k0,3;i2;").falls(0, 1), N);
    }

    private static void withoutIceACellBearsNothing() {
        IceInherited ice = Due.laid("r3,3;i40;");
        Due.due("with ice", ice.cell(4, 4), 60);
        ice.saw(4);
        Due.due("without", ice.cell(4, 4), 0);
        Due.due("beside it", ice.cell(1, 4), 50);
        IceInherited one = Due.laid("r2,2;i1;d19;");
        Due.due("an inch", one.cell(0, 4), 1);
        one.pass(1);
        Due.due("none", one.cell(0, 4), 0);
    }

    private static void theMostThatACellBears() {
        IceInherited ice = Due.laid("r3,3;f2,0,8;i40;d40;");
        ice.pass(1);
        Due.due("60 and an eighth of 240", ice.cell(4, 4), 90);
        Due.due("60 and an eighth of 180", ice.cell(1, 4), 82);
        Due.due("60 and an eighth of 120", ice.cell(0, 4), 75);
        Due.due("a weight of 90", ice.falls(4, 90), N);
        Due.due("a weight of 91", ice.falls(4, 91), 0);
        Due.due("guests of 90", ice.wedding(2, 45, 2, 0), 4);
        Due.due("guests of 91", ice.wedding(2, 13, 7, 0), N);
    }

    private static void besideAreUpDownRightLeft() {
        int[][] around = {{1, 1}, {3, 1}, {5, 1}, {7, 1}, {0, 0}, {2, 0}, {6, 0}, {8, 0}};
        for (int[] row : around) {
            // Sawing one of the four beside takes 5 of the 20 that the middle has of them.
            IceInherited ice = Due.laid("r3,3;i40;");
            ice.saw(row[0]);
            Due.due("without " + row[0], ice.cell(4, 4), 60 - 5 * row[1]);
        }
        // The end of a row is not beside the next one's begin.
        IceInherited ice = Due.laid("r3,3;i40;");
        ice.saw(3);
        Due.due("2 and 3", ice.cell(2, 4), 50);
        ice.saw(5);
        Due.due("2 and 5", ice.cell(2, 4), 45);
        Due.due("6 and 5", ice.cell(6, 4), 45);
        Due.due("7", ice.cell(7, 4), 55);
    }

    private static void aFloeHasNoCornersAndNoRowsEnds() {
        Due.dueCells("corners", Due.laid("r2,2;f0,0,0;f0,3,3;"), 5, 1, 0, 0, 1);
        Due.dueCells("row's end", Due.laid("r2,3;f0,2,2;f0,3,3;"), 5, 0, 0, 1, 1, 0, 0);
        Due.dueCells("first and last", Due.laid("r2,2;f0,0,0;f0,2,2;"), 5, 2, 0, 2, 0);
        IceInherited ice = Due.laid("r7,7;f1,6,6;f1,7,7;f1,41,41;f1,42,42;");
        Due.due("four alone", ice.family(1, 1), 4);
        Due.due("four alone", ice.family(1, 2), 1);
        Due.due("six alone", ice.cell(6, 5), 1);
    }

    private static void aFloeIsOfOneFamily() {
        IceInherited ice = Due.laid("r2,3;f0,0,5;");
        Due.due("all six", ice.cell(0, 5), 6);
        ice.sell(1, 1);
        Due.dueCells("one sold", ice, 5, 5, 1, 5, 5, 5, 5);
        ice.sell(4, 1);
        Due.dueCells("two sold", ice, 5, 2, 2, 2, 2, 2, 2);
        Due.due("parted", ice.family(0, 1), 2);
        ice.saw(4);
        Due.dueCells("one sawn", ice, 5, 2, 1, 2, 2, 0, 2);
        // Nobody's cells are no floe, though they hang together.
        Due.dueCells("nobody's", Due.laid("r2,2;f0,0,0;"), 5, 1, 0, 0, 0);
    }

    private static void aFloeOfTheWholeRiver() {
        IceInherited ice = Due.laid("r7,7;f3,0,48;");
        Due.due("of the first", ice.cell(0, 5), 49);
        Due.due("of the last", ice.cell(48, 5), 49);
        Due.due("floes", ice.family(3, 1), 1);
        Due.due("the largest", ice.family(3, 2), 49);
        Due.due("of it all", ice.shares(24, 3, 1), 1);
        // A winding one: rows 1, 3 and 5 are open but for one end each.
        StringBuilder text = new StringBuilder("r7,7;f3,0,48;");
        text.append("f0,7,12;f0,22,27;f0,35,40;");
        IceInherited winding = Due.laid(text.toString());
        Due.due("four rows and three ends", winding.family(3, 0), 31);
        Due.due("winding", winding.family(3, 1), 1);
        Due.due("winding", winding.cell(0, 5), 31);
        Due.due("winding", winding.cell(48, 5), 31);
        Due.due("its parts", winding.family(0, 1), 3);
        Due.due("its parts", winding.family(0, 2), 6);
    }
}
