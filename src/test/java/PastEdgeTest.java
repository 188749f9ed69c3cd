/**
 * Promises 20 to 28 (block 4 of the terms): each sentence that names a boundary has a test of its
 * own here, on both sides of it.
 */
public final class PastEdgeTest {
    private static final int N = Due.NONE;
    private static final int[] FAR = {Integer.MIN_VALUE, -65536, -100, -5, -4, -3, -2, -1, 10000,
        65536, Integer.MAX_VALUE};

    public static void main(String[] args) {
        sixAreDrilledAtMost();
        drilledIsToldToBe0To60();
        drilledIsOfCellsThatThereAre();
        forgetAnswersHowManyWere();
        onlyLayAndForgetEndWhatIsDrilled();
        nothingDrilledIsSoWithAllColds();
        coldsAreC0To40();
        coldsOfAllThatIsDrilled();
        coldsAtTheLimitsOfTheIce();
        coldsAreFromNow();
        coldsTellTwoThings();
        acrossOfAllAndOfNone();
        acrossHasItsEndsToo();
        acrossFromAnyToAny();
        acrossGoesBeside();
        sharesAreInLowestTerms();
        sharesOfNone();
        sharesTellTwoThings();
        winterIsByZOf0To9999();
        winterIsOf1To60Days();
        winterIsOfAFamilyOrOfCells();
        winterColdsAreLessEight();
        winterDrawsEachDayAnew();
        winterIsFromNowOn();
        winterDaysWithoutACell();
        twoAreKeptAtMost();
        backIsAsKeptLast();
        backOfNothing();
        nothingIsUndoneBehindBack();
        backLeavesTheRest();
        countTellsElevenThings();
        Due.end();
    }

    private static IceInherited aRiver() {
        IceInherited ice = Due.laid("r2,3;k1,1;k5,2;f0,0,4;f1,4,5;i6;d23;d15;l1;");
        ice.pass(1);
        ice.saw(3);
        ice.keep();
        ice.drill(0, 5);
        return ice;
    }

    private static void dueBad(String call, Twins.Asked asked) {
        Twins.dueRefused(call, PastEdgeTest::aRiver, asked, Due.BAD);
    }

    private static IceInherited sixDrilled() {
        IceInherited ice = aRiver();
        for (int i = 2; i <= 6; i++) {
            ice.drill(0, 9);
        }
        return ice;
    }

    private static void sixAreDrilledAtMost() {
        IceInherited ice = Due.laid("r2,3;");
        for (int i = 1; i <= 6; i++) {
            Due.due("drill", ice.drill(i - 1, 5), i);
            Due.due("drilled", ice.count(7), i);
        }
        Due.due("the seventh", ice.drill(0, 5), Due.FULL);
        Due.due("drilled", ice.count(7), 6);
        Twins.dueRefused("the seventh", PastEdgeTest::sixDrilled, river -> river.drill(1, 8),
                Due.FULL);
        // BAD ahead of FULL.
        Twins.dueRefused("the seventh, no cell", PastEdgeTest::sixDrilled,
                river -> river.drill(6, 8), Due.BAD);
        Twins.dueRefused("the seventh, 61", PastEdgeTest::sixDrilled, river -> river.drill(1, 61),
                Due.BAD);
        Twins.dueRefused("the seventh, -1", PastEdgeTest::sixDrilled, river -> river.drill(1, -1),
                Due.BAD);
        // The seventh, refused, is not asked for; the sixth is.
        IceInherited full = Due.laid("r2,2;i5;");
        for (int i = 1; i <= 6; i++) {
            full.drill(0, 7);
        }
        full.drill(0, 9);
        Due.due("of the six", full.colds(0), 1);
        full.forget();
        for (int i = 1; i <= 5; i++) {
            full.drill(0, 7);
        }
        Due.due("of five", full.colds(0), 1);
        full.drill(0, 9);
        Due.due("with a sixth", full.colds(0), 0);
    }

    private static void drilledIsToldToBe0To60() {
        IceInherited ice = Due.laid("r2,2;i40;");
        Due.due("drill 0", ice.drill(0, 0), 1);
        Due.due("no such cold", ice.colds(0), 0);
        ice.forget();
        Due.due("drill 60", ice.drill(0, 60), 1);
        Due.due("by the most cold", ice.colds(0), 1);
        Due.due("by the most cold", ice.colds(1), 40);
        // A CHANNEL is told to be what it cannot be.
        IceInherited channel = Due.laid("r2,2;k0,2;");
        Due.due("a channel of 10", channel.drill(0, 10), 1);
        Due.due("never so", channel.colds(0), 0);
        dueBad("drill 61", river -> river.drill(0, 61));
        dueBad("drill -1", river -> river.drill(0, -1));
        for (int inches : FAR) {
            dueBad("drill " + inches, river -> river.drill(0, inches));
        }
    }

    private static void drilledIsOfCellsThatThereAre() {
        IceInherited ice = Due.laid("r2,3;");
        Due.due("the first", ice.drill(0, 3), 1);
        Due.due("the last", ice.drill(5, 3), 2);
        Due.due("both", ice.colds(0), 1);
        dueBad("drill of 6", river -> river.drill(6, 3));
        for (int x : FAR) {
            dueBad("drill of " + x, river -> river.drill(x, 3));
        }
        // What has no ice, and what is nobody's, can be drilled as well.
        IceInherited open = Due.laid("r2,2;i0;");
        Due.due("water", open.drill(0, 0), 1);
        Due.due("0 at least", open.colds(0), 21);
    }

    private static void forgetAnswersHowManyWere() {
        IceInherited ice = Due.laid("r2,2;");
        for (int drilled = 0; drilled <= 7; drilled++) {
            for (int i = 0; i < drilled; i++) {
                ice.drill(0, 50);
            }
            Due.due("forget", ice.forget(), Math.min(6, drilled));
            Due.due("drilled", ice.count(7), 0);
            Due.due("forget again", ice.forget(), 0);
            Due.due("colds", ice.colds(0), 41);
        }
        Due.due("the first again", ice.drill(0, 5), 1);
        // Behind lay nothing is drilled.
        Due.due("lay", ice.lay(), 4);
        Due.due("forget", ice.forget(), 0);
    }

    private static void onlyLayAndForgetEndWhatIsDrilled() {
        IceInherited ice = Due.laid("r2,3;f0,0,3;f1,2,5;i9;d25;d15;");
        ice.drill(0, 12);
        ice.drill(1, 12);
        dueDrilled("from 9 inches", ice, 23);
        ice.keep();
        ice.pass(1);
        dueDrilled("behind pass, from 14", ice, 18);
        ice.undo();
        dueDrilled("behind undo, from 9", ice, 23);
        ice.pass(1);
        ice.back();
        dueDrilled("behind back, from 9", ice, 23);
        ice.saw(5);
        ice.sell(4, 0);
        dueDrilled("behind saw and sell", ice, 23);
        ice.saw(0);
        Due.due("0 and 9 inches", ice.colds(0), 0);
        ice.undo();
        dueDrilled("behind undo of that", ice, 23);
        ice.wipe();
        dueDrilled("behind wipe", ice, 23);
        Due.due("lay of nothing", ice.lay(), Due.NO);
        dueDrilled("behind lay, refused", ice, 23);
        Due.writeAll(ice, "i9;");
        dueDrilled("behind write", ice, 23);
        Due.due("lay", ice.lay(), 20);
        Due.due("nothing drilled", ice.count(7), 0);
        Due.due("all colds", ice.colds(0), 41);
    }

    private static void dueDrilled(String name, IceInherited ice, int cold) {
        Due.due(name + ": drilled", ice.count(7), 2);
        Due.due(name + ": how many colds", ice.colds(0), 1);
        Due.due(name + ": the lowest", ice.colds(1), cold);
    }

    private static void nothingDrilledIsSoWithAllColds() {
        IceInherited ice = Due.laid("r2,2;i40;");
        Due.due("how many", ice.colds(0), 41);
        Due.due("the lowest", ice.colds(1), 0);
        ice.drill(0, 60);
        Due.due("how many", ice.colds(0), 1);
        ice.forget();
        Due.due("how many", ice.colds(0), 41);
        Due.due("the lowest", ice.colds(1), 0);
        ice.saw(0);
        ice.pass(30);
        Due.due("whatever there is", ice.colds(0), 41);
    }

    private static void coldsAreC0To40() {
        // From 21 inches: C 0 leaves 1, C 40 makes 41; 0 or 42 inches are beyond them.
        for (int inches = 0; inches <= 60; inches++) {
            IceInherited ice = Due.laid("r2,2;i21;");
            ice.drill(0, inches);
            boolean so = inches >= 1 && inches <= 41;
            Due.due("how many for " + inches, ice.colds(0), so ? 1 : 0);
            Due.due("the lowest for " + inches, ice.colds(1), so ? inches - 1 : N);
        }
        // From 20 inches: C 0 alone leaves none.
        IceInherited ice = Due.laid("r2,2;i20;");
        ice.drill(0, 0);
        Due.due("C 0", ice.colds(0), 1);
        Due.due("C 0", ice.colds(1), 0);
    }

    private static void coldsOfAllThatIsDrilled() {
        IceInherited ice = Due.laid("r2,2;k1,1;k2,2;i9;");
        ice.drill(0, 9);
        Due.due("one", ice.colds(0), 1);
        ice.drill(0, 9);
        Due.due("the same once more", ice.colds(0), 1);
        ice.drill(1, 9);
        Due.due("a flowing one", ice.colds(0), 1);
        ice.drill(2, 9);
        Due.due("a channel", ice.colds(0), 1);
        Due.due("the lowest", ice.colds(1), 20);
        ice.drill(0, 10);
        Due.due("two that cannot be both", ice.colds(0), 0);
        Due.due("two that cannot be both", ice.colds(1), N);
        // FLOWING: COLD 0 and 1 leave it so; with a calm one beside it just one of the two.
        IceInherited both = Due.laid("r2,2;k1,1;i9;");
        both.drill(1, 9);
        Due.due("0 and 1", both.colds(0), 2);
        Due.due("the lowest", both.colds(1), 20);
        both.drill(0, 10);
        Due.due("1", both.colds(0), 1);
        Due.due("the lowest", both.colds(1), 21);
    }

    private static void coldsAtTheLimitsOfTheIce() {
        // A CHANNEL: 9 at most, 0 at least, half of it, 2 times that.
        int[][] rows = {{9, 13, 28}, {8, 2, 26}, {5, 2, 20}, {3, 1, 19}, {1, 1, 18}, {4, 0, N},
            {2, 0, N}, {0, 18, 0}};
        for (int[] row : rows) {
            IceInherited ice = Due.laid("r2,2;k0,2;i5;");
            ice.drill(0, row[0]);
            Due.due("a channel of " + row[0], ice.colds(0), row[1]);
            Due.due("a channel of " + row[0], ice.colds(1), row[2]);
        }
        // 60 at most: from 55 inches on C 25 to 40.
        IceInherited ice = Due.laid("r2,2;i40;d35;");
        ice.pass(1);
        ice.drill(0, 60);
        Due.due("60 inches", ice.colds(0), 16);
        Due.due("60 inches", ice.colds(1), 25);
        ice.forget();
        ice.drill(0, 59);
        Due.due("59 inches", ice.colds(0), 1);
        // 0 at least: from 5 inches C 0 to 15, of a FLOWING one to 16.
        IceInherited thaw = Due.laid("r2,2;k1,1;i5;");
        thaw.drill(0, 0);
        Due.due("no inch", thaw.colds(0), 16);
        Due.due("no inch", thaw.colds(1), 0);
        thaw.forget();
        thaw.drill(1, 0);
        Due.due("no inch of a flowing one", thaw.colds(0), 17);
    }

    private static void coldsAreFromNow() {
        IceInherited ice = Due.laid("r2,2;f0,0,3;i9;d25;d15;");
        ice.drill(0, 12);
        Due.due("from 9", ice.colds(1), 23);
        ice.pass(1);
        Due.due("from 14", ice.colds(1), 18);
        ice.saw(0);
        Due.due("from 0", ice.colds(1), 32);
        ice.undo();
        Due.due("from 14", ice.colds(1), 18);
        ice.undo();
        Due.due("from 9", ice.colds(1), 23);
        // The COLD that is told for the next day has no say.
        Due.due("all that it can be", ice.colds(0), 1);
    }

    private static void coldsTellTwoThings() {
        IceInherited ice = Due.laid("r2,2;");
        ice.drill(0, 50);
        Due.due("how many", ice.colds(0), 0);
        Due.due("the lowest", ice.colds(1), N);
        dueBad("colds(2)", river -> river.colds(2));
        for (int what : FAR) {
            dueBad("colds(" + what + ")", river -> river.colds(what));
            // BAD ahead of NONE.
            Due.due("colds where none is", ice.colds(what), Due.BAD);
        }
        Twins.dueRefused("no cold", () -> {
            IceInherited river = Due.laid("r2,3;");
            river.drill(0, 50);
            return river;
        }, river -> river.colds(1), N);
    }

    private static void acrossOfAllAndOfNone() {
        for (int rows = 2; rows <= 7; rows++) {
            for (int columns = 2; columns <= 7; columns += 5) {
                String size = "r" + rows + "," + columns + ";";
                Due.due("all ice " + size, Due.laid(size).across(), 0);
                Due.due("an inch " + size, Due.laid(size + "i1;").across(), 0);
                Due.due("no ice " + size, Due.laid(size + "i0;").across(), rows);
            }
        }
    }

    private static void acrossHasItsEndsToo() {
        IceInherited ice = Due.laid("r3,3;");
        sawAll(ice, 0, 1, 2);
        Due.due("the first row", ice.across(), 1);
        sawAll(ice, 6, 7, 8);
        Due.due("the last row, too", ice.across(), 2);
        sawAll(ice, 3, 4);
        Due.due("one in the middle", ice.across(), 2);
        sawAll(ice, 5);
        Due.due("none", ice.across(), 3);
        IceInherited last = Due.laid("r3,3;");
        sawAll(last, 6, 7);
        Due.due("one is left", last.across(), 0);
        sawAll(last, 8);
        Due.due("none is left", last.across(), 1);
    }

    private static void acrossFromAnyToAny() {
        for (int from = 0; from <= 2; from++) {
            for (int to = 6; to <= 8; to++) {
                // With the middle row whole any two ends are joined.
                IceInherited ice = Due.laid("r3,3;");
                for (int x = 0; x < 9; x++) {
                    if (x != from && x != to && x / 3 != 1) {
                        ice.saw(x);
                    }
                }
                Due.due("from " + from + " to " + to, ice.across(), 0);
                ice.saw(3 + from);
                Due.due("from " + from + " to " + to + " over water", ice.across(), 1);
            }
        }
    }

    private static void acrossGoesBeside() {
        // Only a corner joins the two: one cell of water between them.
        IceInherited ice = Due.laid("r2,2;");
        sawAll(ice, 1, 2);
        Due.due("over a corner", ice.across(), 1);
        IceInherited ends = Due.laid("r2,3;");
        sawAll(ends, 0, 1, 4, 5);
        Due.due("2 and 3 are not beside", ends.across(), 1);
        // A long way over ice is better than a short one over water: up again, too.
        IceInherited bent = Due.laid("r4,5;");
        sawAll(bent, 1, 2, 3, 4, 6, 13, 15, 16, 17, 18);
        Due.due("bent", bent.across(), 0);
        sawAll(bent, 8);
        Due.due("cut", bent.across(), 1);
    }

    private static void sawAll(IceInherited ice, int... cells) {
        for (int x : cells) {
            ice.saw(x);
        }
    }

    private static void sharesAreInLowestTerms() {
        // Of six cells 0 to 6 are 1's on the map, and all of them 0's floe.
        int[][] rows = {{0, 1}, {1, 6}, {1, 3}, {1, 2}, {2, 3}, {5, 6}, {1, 1}};
        for (int ones = 0; ones <= 6; ones++) {
            StringBuilder text = new StringBuilder("r2,3;f0,0,5;");
            for (int x = 0; x < ones; x++) {
                text.append("f1,").append(x).append(",").append(x).append(";");
            }
            IceInherited ice = Due.laid(text.toString());
            for (int x = 0; x < ones; x++) {
                ice.sell(x, 0);
            }
            int[] zeros = rows[6 - ones];
            Due.due("above of " + ones, ice.shares(0, 1, 0), rows[ones][0]);
            Due.due("below of " + ones, ice.shares(0, 1, 1), rows[ones][1]);
            Due.due("above of the rest", ice.shares(5, 0, 0), zeros[0]);
            Due.due("below of the rest", ice.shares(5, 0, 1), zeros[1]);
            Due.due("above of a third", ice.shares(5, 3, 0), 0);
            Due.due("below of a third", ice.shares(5, 3, 1), 1);
        }
        IceInherited all = Due.laid("r7,7;f0,0,48;");
        Due.due("49 of 49", all.shares(48, 0, 0), 1);
        Due.due("49 of 49", all.shares(48, 0, 1), 1);
        IceInherited seventh = Due.laid("r7,7;f0,0,48;f1,0,6;f2,7,7;");
        Due.due("42 less 1", seventh.family(0, 0), 41);
        Due.due("7 of 7", seventh.shares(0, 1, 1), 1);
        for (int x = 0; x < 8; x++) {
            seventh.sell(x, 0);
        }
        Due.due("7 of 49", seventh.shares(20, 1, 0), 1);
        Due.due("7 of 49", seventh.shares(20, 1, 1), 7);
        Due.due("41 of 49", seventh.shares(20, 0, 0), 41);
        Due.due("41 of 49", seventh.shares(20, 0, 1), 49);
    }

    private static void sharesOfNone() {
        IceInherited ice = aRiver();
        int[] nobodys = {2, 3, 5};
        for (int x : nobodys) {
            for (int part = 0; part <= 1; part++) {
                for (int f = 0; f <= 3; f++) {
                    Due.due("of nobody's " + x, ice.shares(x, f, part), N);
                }
                int asked = part;
                Twins.dueRefused("of nobody's", PastEdgeTest::aRiver,
                        river -> river.shares(x, 0, asked), N);
            }
        }
        Due.due("of somebody's", ice.shares(4, 1, 0), 1);
        Due.due("of somebody's", ice.shares(4, 0, 0), 0);
    }

    private static void sharesTellTwoThings() {
        IceInherited ice = aRiver();
        Due.due("above", ice.shares(0, 0, 0), 1);
        Due.due("below", ice.shares(0, 0, 1), 1);
        Due.due("for 3", ice.shares(0, 3, 0), 0);
        dueBad("shares of 6", river -> river.shares(6, 0, 0));
        dueBad("shares for 4", river -> river.shares(0, 4, 0));
        dueBad("shares, 2", river -> river.shares(0, 0, 2));
        for (int far : FAR) {
            dueBad("shares of " + far, river -> river.shares(far, 0, 0));
            dueBad("shares for " + far, river -> river.shares(0, far, 1));
            dueBad("shares, " + far, river -> river.shares(0, 0, far));
            // BAD ahead of NONE: 2 is nobody's.
            dueBad("shares for " + far + " of nobody's", river -> river.shares(2, far, 1));
            dueBad("shares of nobody's, " + far, river -> river.shares(2, 0, far));
        }
    }

    private static void winterIsByZOf0To9999() {
        // The first day of z 0 has a COLD of -8, that of z 9999 one of -1.
        Due.due("z 0", Due.laid("r2,2;i8;").winter(0, 1, -1), 0);
        Due.due("z 0", Due.laid("r2,2;i9;").winter(0, 1, -1), 4);
        Due.due("z 9999", Due.laid("r2,2;i1;").winter(9999, 1, -1), 0);
        Due.due("z 9999", Due.laid("r2,2;i2;").winter(9999, 1, -1), 4);
        dueBad("z 10000", river -> river.winter(10000, 1, 0));
        dueBad("z -1", river -> river.winter(-1, 1, -1));
        for (int z : FAR) {
            dueBad("z " + z, river -> river.winter(z, 1, 0));
        }
    }

    private static void winterIsOf1To60Days() {
        IceInherited ice = Due.laid("r2,2;f0,0,3;");
        Due.due("1 day", ice.winter(0, 1, 3), 1);
        Due.due("59 days", ice.winter(0, 59, 3), 59);
        Due.due("60 days", ice.winter(0, 60, 3), 60);
        dueBad("no day", river -> river.winter(0, 0, 0));
        dueBad("61 days", river -> river.winter(0, 61, 0));
        dueBad("61 days", river -> river.winter(0, 61, -1));
        for (int n : FAR) {
            dueBad(n + " days", river -> river.winter(0, n, -1));
        }
    }

    private static void winterIsOfAFamilyOrOfCells() {
        // z 21 begins with a COLD of 12.
        IceInherited ice = Due.laid("r2,3;f0,0,0;f3,1,5;");
        Due.due("cells", ice.winter(21, 1, -1), 6);
        Due.due("of 0", ice.winter(21, 1, 0), 0);
        Due.due("of 1", ice.winter(21, 1, 1), 1);
        Due.due("of 3", ice.winter(21, 1, 3), 0);
        dueBad("of 4", river -> river.winter(0, 1, 4));
        dueBad("of -2", river -> river.winter(0, 1, -2));
        dueBad("of NONE", river -> river.winter(0, 1, N));
        for (int f : FAR) {
            if (f != -1) {
                dueBad("of " + f, river -> river.winter(0, 1, f));
            }
        }
    }

    private static void winterColdsAreLessEight() {
        // The first days of z 0, 2, 53, 26 and 21: COLD -8, -1, 0, 1 and 12.
        int[][] rows = {{0, 8, 9}, {2, 1, 2}};
        for (int[] row : rows) {
            Due.due("thaws", Due.laid("r2,2;i" + row[1] + ";").winter(row[0], 1, -1), 0);
            Due.due("stays", Due.laid("r2,2;i" + row[2] + ";").winter(row[0], 1, -1), 4);
            Due.due("a flowing one thaws",
                    Due.laid("r2,2;k0,1;i" + row[2] + ";").winter(row[0], 1, -1), 3);
        }
        IceInherited open = Due.laid("r2,2;k1,1;k2,2;k3,3;i0;");
        Due.due("COLD 0", open.winter(53, 1, -1), 0);
        Due.due("COLD 1: calm ones and reeds", open.winter(26, 1, -1), 2);
        Due.due("COLD 12: all", open.winter(21, 1, -1), 4);
        // z 9999: -1, -6, -2, 10: 9 inches are 8, 2, 0, 10.
        int[] cells = {4, 4, 0, 4};
        for (int n = 1; n <= 4; n++) {
            Due.due("z 9999", Due.laid("r2,2;i9;").winter(9999, n, -1), cells[n - 1]);
        }
    }

    private static void winterDrawsEachDayAnew() {
        // As thick as 49, 48, .. 1: how many have ice tells what all days together took.
        IceInherited stairs = Due.laid("r7,7;i1;d21;");
        for (int x = 1; x <= 48; x++) {
            stairs.saw(x);
            stairs.pass(1);
        }
        Due.due("the thickest", stairs.cell(0, 1), 49);
        Due.due("the thinnest", stairs.cell(48, 1), 1);
        int[][] rows = {
            {0, 41, 49, 49, 49, 41, 49}, {1, 49, 48, 49, 49, 49, 49}, {2, 48, 40, 33, 49, 49, 49},
            {26, 49, 49, 46, 38, 38, 33}, {53, 49, 41, 33, 49, 33, 49},
            {9998, 49, 49, 49, 49, 49, 49}, {9999, 48, 42, 40, 49, 49, 49}};
        for (int[] row : rows) {
            for (int n = 1; n <= 6; n++) {
                Due.due("z " + row[0] + ", " + n + " days", stairs.winter(row[0], n, -1), row[n]);
            }
        }
    }

    private static void winterIsFromNowOn() {
        // The river's own COLD has no say, but what there is now has.
        IceInherited ice = Due.laid("r2,2;f0,0,3;i3;d26;d0;");
        Due.due("3 inches, -8", ice.winter(0, 1, -1), 0);
        ice.pass(1);
        Due.due("9 inches, -8", ice.winter(0, 1, -1), 4);
        Due.due("9 inches, -8", ice.winter(0, 1, 0), 0);
        ice.saw(1);
        Due.due("one sawn", ice.winter(0, 1, -1), 3);
        ice.sell(0, 2);
        ice.sell(2, 2);
        ice.sell(3, 2);
        Due.due("all sold", ice.winter(0, 1, 0), 1);
        Due.due("all bought", ice.winter(0, 1, 2), 0);
        Due.due("the day stays", ice.count(3), 1);
        Due.due("the ice stays", ice.count(6), 27);
        Due.due("to be undone", ice.count(8), 5);
    }

    private static void winterDaysWithoutACell() {
        // z 9999 from 9 inches: open behind the third day alone.
        int[][] rows = {{0, 0, 0, 1, 1}, {1, 0, 0, 1, 2}, {2, 0, 0, 1, 2}};
        for (int[] row : rows) {
            IceInherited ice = Due.laid("r2,2;f0,0,3;i9;l" + row[0] + ";");
            for (int n = 1; n <= 4; n++) {
                Due.due("law " + row[0] + ", " + n + " days", ice.winter(9999, n, 0), row[n]);
                Due.due("a family without", ice.winter(9999, n, 1), n);
            }
        }
    }

    private static IceInherited twoKept() {
        IceInherited ice = aRiver();
        ice.saw(0);
        ice.keep();
        ice.pass(2);
        return ice;
    }

    private static void twoAreKeptAtMost() {
        IceInherited ice = Due.laid("r2,2;");
        Due.due("none", ice.count(9), 0);
        Due.due("keep", ice.keep(), 1);
        Due.due("one", ice.count(9), 1);
        Due.due("keep", ice.keep(), 2);
        Due.due("two", ice.count(9), 2);
        Due.due("a third", ice.keep(), Due.FULL);
        Due.due("two", ice.count(9), 2);
        Twins.dueRefused("keep a third", PastEdgeTest::twoKept, IceInherited::keep, Due.FULL);
        Due.due("back", ice.back(), 1);
        Due.due("a second again", ice.keep(), 2);
        Due.due("a third", ice.keep(), Due.FULL);
    }

    private static void backIsAsKeptLast() {
        IceInherited ice = Due.laid("r2,2;f0,0,3;i5;d21;");
        ice.keep();
        ice.pass(3);
        ice.sell(0, 1);
        ice.keep();
        ice.pass(4);
        ice.saw(1);
        ice.keep();
        Due.due("back", ice.back(), 1);
        Due.due("3 days", ice.count(3), 3);
        Due.dueCells("8 inches", ice, 1, 8, 8, 8, 8);
        Due.dueCells("one sold", ice, 2, 1, 0, 0, 0);
        ice.saw(2);
        Due.due("back", ice.back(), 0);
        Due.due("no day", ice.count(3), 0);
        Due.dueCells("5 inches", ice, 1, 5, 5, 5, 5);
        Due.dueCells("none sold", ice, 2, 0, 0, 0, 0);
        ice.pass(1);
        Due.due("the days go on from there", ice.count(3), 1);
        Due.due("no third", ice.back(), Due.NO);
        Due.due("and nothing changes", ice.count(3), 1);
    }

    private static void backOfNothing() {
        Twins.dueRefused("back at first", IceInherited::new, IceInherited::back, Due.NO);
        Twins.dueRefused("back of what is kept no more", () -> {
            IceInherited ice = twoKept();
            ice.back();
            ice.back();
            ice.saw(4);
            ice.sell(0, 3);
            return ice;
        }, IceInherited::back, Due.NO);
        Twins.dueRefused("back behind lay", () -> {
            IceInherited ice = twoKept();
            ice.lay();
            ice.saw(4);
            return ice;
        }, IceInherited::back, Due.NO);
    }

    private static void nothingIsUndoneBehindBack() {
        IceInherited ice = Due.laid("r2,2;f0,0,3;");
        ice.keep();
        Due.due("nothing yet", ice.count(8), 0);
        for (int i = 1; i <= 8; i++) {
            ice.sell(0, i % 4);
        }
        Due.due("eight", ice.count(8), 8);
        Due.due("back", ice.back(), 0);
        Due.due("none", ice.count(8), 0);
        Due.due("undo", ice.undo(), Due.NO);
        Due.due("as kept", ice.cell(0, 2), 0);
        ice.saw(0);
        Due.due("what is done then can be", ice.undo(), 0);
        Due.due("as kept", ice.cell(0, 1), 3);
        // A keep leaves what can be undone.
        ice.saw(1);
        ice.keep();
        Due.due("one", ice.count(8), 1);
        Due.due("undo", ice.undo(), 0);
        Due.due("kept is not undone", ice.count(9), 1);
        Due.due("back", ice.back(), 0);
        Due.due("sawn as it was kept", ice.cell(1, 1), 0);
    }

    private static void backLeavesTheRest() {
        IceInherited ice = twoKept();
        Due.due("back", ice.back(), 1);
        Due.due("drilled", ice.count(7), 1);
        Due.due("letters", ice.count(10), 43);
        Due.due("cells", ice.count(0), 6);
        Due.due("law", ice.count(2), 1);
        Due.due("on the map", ice.cell(3, 3), 0);
        Due.due("sawn as it was kept", ice.cell(0, 1), 0);
    }

    private static void countTellsElevenThings() {
        IceInherited ice = aRiver();
        // 9 8 9 / 0 9 7 inches; 3 is sawn, 2 nobody's, 5 a channel.
        int[] wants = {6, 2, 1, 1, 5, 3, 42, 1, 2, 1, 43};
        for (int what = 0; what <= 10; what++) {
            Due.due("count(" + what + ")", ice.count(what), wants[what]);
        }
        dueBad("count(11)", river -> river.count(11));
        for (int what : FAR) {
            dueBad("count(" + what + ")", river -> river.count(what));
        }
        IceInherited full = Due.laid("r7,7;f0,0,48;i40;d40;");
        full.pass(30);
        Due.due("49 times 60 inches", full.count(6), 2940);
        Due.due("with ice", full.count(4), 49);
        Due.due("somebody's", full.count(5), 49);
        IceInherited open = Due.laid("r7,7;f0,0,48;i0;");
        Due.due("no inch", open.count(6), 0);
        Due.due("no ice", open.count(4), 0);
        Due.due("nobody's", open.count(5), 0);
    }
}
