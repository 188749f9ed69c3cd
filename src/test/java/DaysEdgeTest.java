/**
 * Promises 9 to 12, and what block 2 of the terms says of a DAY and of what can be UNDONE: each
 * sentence that names a boundary has a test of its own here, on both sides of it.
 */
public final class DaysEdgeTest {
    private static final int N = Due.NONE;
    private static final int[] FAR = {Integer.MIN_VALUE, -65536, -100, -5, -4, -3, -2, -1, 100,
        65536, Integer.MAX_VALUE};

    public static void main(String[] args) {
        daysThatGoByAre1To30();
        daysGoOnBeyondWhatColdTells();
        aCellGrowsByCold();
        itIs0InchesAtLeast();
        itIs60InchesAtMost();
        aChannelIs9InchesAtMost();
        aCellOf0InchesIsNobodys();
        onlyWhatHad0AndHasMoreIsOwnedAnew();
        lawMap();
        lawBesideOfMost();
        lawBesideOfSeveralTheLowest();
        lawBesideNoneHadOne();
        lawBesideLooksAheadOfTheDay();
        lawBesideLooksAtFourSides();
        lawNobody();
        aChannelIsAlwaysNobodys();
        sawOfACellWithIce();
        sawOfNoCellOrNoIce();
        sellToAFamily();
        sellOfNobodysOrItsOwn();
        undoOfNothing();
        theLastEightCanBeUndone();
        theLastEightDaysAndSawings();
        whatGoesByAtOneTimeIsOne();
        eachKindIsUndone();
        refusedCallsTakeNoPlace();
        undoLeavesTheRest();
        Due.end();
    }

    private static IceInherited aRiver() {
        IceInherited ice = Due.laid("r2,3;k1,1;k5,2;f0,0,4;f1,4,5;i6;d23;d15;l1;");
        ice.pass(1);
        ice.saw(3);
        ice.keep();
        ice.drill(0, 5);
        return ice;
    }

    private static void daysThatGoByAre1To30() {
        IceInherited ice = Due.laid("r2,2;i0;d21;");
        Due.due("pass(1)", ice.pass(1), 1);
        Due.due("one day's inch", ice.cell(0, 1), 1);
        Due.due("pass(30)", ice.pass(30), 31);
        Due.due("thirty more", ice.cell(0, 1), 31);
        Due.due("pass(29)", ice.pass(29), 60);
        Due.due("days", ice.count(3), 60);
        Twins.dueRefused("pass(0)", DaysEdgeTest::aRiver, river -> river.pass(0), Due.BAD);
        Twins.dueRefused("pass(31)", DaysEdgeTest::aRiver, river -> river.pass(31), Due.BAD);
        for (int n : FAR) {
            Twins.dueRefused("pass(" + n + ")", DaysEdgeTest::aRiver, river -> river.pass(n),
                    Due.BAD);
        }
    }

    private static void daysGoOnBeyondWhatColdTells() {
        // An inch more behind the first day of seven, an inch less behind the fourth.
        IceInherited ice = Due.laid("r2,2;i9;d21;d20;d20;d19;d20;d20;d20;");
        for (int day = 30; day <= 3000; day += 30) {
            Due.due("pass(30)", ice.pass(30), day);
            int rest = day % 7;
            Due.due("inches of day " + day, ice.cell(0, 1), rest >= 1 && rest <= 3 ? 10 : 9);
        }
        for (int n = 0; n <= 60; n++) {
            int rest = (3000 + n) % 7;
            Due.due("behind " + n, ice.behind(n, 0, 0), rest >= 1 && rest <= 3 ? 10 : 9);
        }
        Due.due("cold(0) is of day 0", ice.cold(0), 21);
    }

    private static void aCellGrowsByCold() {
        // CALM, FLOWING, CHANNEL and REEDS, from 5 inches, by COLD of -2 to 5.
        int[][] rows = {{3, 2, 1, 3}, {4, 3, 3, 4}, {5, 5, 5, 5}, {6, 5, 5, 6}, {7, 6, 6, 7},
            {8, 7, 6, 8}, {9, 8, 7, 9}, {10, 9, 7, 10}};
        for (int cold = -2; cold <= 5; cold++) {
            IceInherited ice = Due.laid("r2,2;k1,1;k2,2;k3,3;i5;d" + (20 + cold) + ";");
            ice.pass(1);
            Due.dueCells("cold " + cold, ice, 1, rows[cold + 2]);
        }
        IceInherited ice = Due.laid("r2,2;k1,1;k2,2;k3,3;i40;d0;d40;");
        ice.pass(1);
        Due.dueCells("cold -20", ice, 1, 20, 19, 0, 20);
        ice.pass(1);
        Due.dueCells("cold 20", ice, 1, 40, 38, 9, 40);
    }

    private static void itIs0InchesAtLeast() {
        // From 5 inches: the last COLD that leaves an inch or two, the first that leaves none.
        int[][] rows = {{18, 3, 2, 1, 3}, {17, 2, 1, 0, 2}, {16, 1, 0, 0, 1}, {15, 0, 0, 0, 0},
            {14, 0, 0, 0, 0}, {0, 0, 0, 0, 0}};
        for (int[] row : rows) {
            IceInherited ice = Due.laid("r2,2;k1,1;k2,2;k3,3;i5;d" + row[0] + ";");
            ice.pass(1);
            Due.dueCells("d" + row[0], ice, 1, row[1], row[2], row[3], row[4]);
        }
        IceInherited ice = Due.laid("r2,2;k1,1;k2,2;k3,3;i0;d0;d23;");
        ice.pass(1);
        Due.dueCells("0 stays 0", ice, 1, 0, 0, 0, 0);
        ice.pass(1);
        Due.dueCells("nothing is owed", ice, 1, 3, 2, 1, 3);
    }

    private static void itIs60InchesAtMost() {
        int[][] rows = {{38, 58, 57}, {39, 59, 58}, {40, 60, 59}};
        for (int[] row : rows) {
            IceInherited ice = Due.laid("r2,2;k1,1;k3,3;i40;d" + row[0] + ";d21;d22;d40;d19;");
            ice.pass(1);
            Due.dueCells("d" + row[0], ice, 1, row[1], row[2], row[1], row[1]);
            ice.pass(1);
            int next = Math.min(60, row[1] + 1);
            Due.dueCells("an inch more", ice, 1, next, row[2], next, next);
            ice.pass(2);
            Due.dueCells("60 at most", ice, 1, 60, 60, 60, 60);
            ice.pass(1);
            Due.dueCells("what is more is lost", ice, 1, 59, 58, 59, 59);
        }
    }

    private static void aChannelIs9InchesAtMost() {
        int[][] rows = {{21, 8}, {22, 9}, {23, 9}, {24, 9}, {40, 9}};
        for (int[] row : rows) {
            IceInherited ice = Due.laid("r2,2;k0,2;i8;d" + row[0] + ";d40;d19;");
            ice.pass(1);
            Due.due("from 8 by d" + row[0], ice.cell(0, 1), row[1]);
            ice.pass(1);
            Due.due("9 at most", ice.cell(0, 1), 9);
            ice.pass(1);
            Due.due("2 times an inch less", ice.cell(0, 1), 7);
        }
    }

    private static void aCellOf0InchesIsNobodys() {
        IceInherited ice = Due.laid("r2,2;f0,0,3;f1,1,1;k1,1;i3;d19;l2;");
        ice.pass(1);
        Due.dueCells("two inches, or one", ice, 1, 2, 1, 2, 2);
        Due.dueCells("theirs still", ice, 2, 0, 1, 0, 0);
        ice.pass(1);
        Due.dueCells("one inch, or none", ice, 1, 1, 0, 1, 1);
        Due.dueCells("theirs still", ice, 2, 0, N, 0, 0);
        Due.due("somebody's", ice.count(5), 3);
        ice.pass(1);
        Due.dueCells("none", ice, 2, N, N, N, N);
        Due.due("somebody's", ice.count(5), 0);
    }

    private static void onlyWhatHad0AndHasMoreIsOwnedAnew() {
        // COLD 0 and 1 give a FLOWING one nothing, COLD 2 an inch.
        int[][] rows = {{20, N, N}, {21, 0, N}, {22, 0, 0}};
        for (int[] row : rows) {
            IceInherited ice = Due.laid("r2,2;f0,0,3;k1,1;i0;d" + row[0] + ";");
            ice.pass(1);
            Due.dueCells("d" + row[0], ice, 2, row[1], row[2], row[1], row[1]);
        }
        // What had an inch stays as it was: sold, or nobody's, whatever the law says.
        for (int law = 0; law <= 2; law++) {
            IceInherited ice = Due.laid("r2,2;f0,0,1;i1;d25;l" + law + ";");
            ice.sell(0, 3);
            ice.pass(1);
            Due.dueCells("law " + law, ice, 2, 3, 0, N, N);
            ice.pass(30);
            Due.dueCells("law " + law, ice, 2, 3, 0, N, N);
        }
        // A day of 0 between the sawing and the frost changes nothing of it.
        IceInherited ice = Due.laid("r2,2;f0,0,3;d20;d21;");
        ice.saw(0);
        ice.pass(1);
        Due.due("0 still", ice.cell(0, 2), N);
        ice.pass(1);
        Due.due("1 now", ice.cell(0, 2), 0);
    }

    private static void lawMap() {
        IceInherited ice = Due.laid("r2,2;f0,0,0;f3,1,1;k2,2;f1,2,2;i1;d19;d21;d21;l0;");
        ice.sell(0, 2);
        ice.pass(2);
        Due.dueCells("as on the map", ice, 2, 0, 3, N, N);
        ice.pass(1);
        Due.dueCells("a channel not", ice, 2, 0, 3, N, N);
    }

    private static void lawBesideOfMost() {
        // The middle one of three by three: whose the four beside it are, and whose it is then.
        int[][] rows = {{0, 0, 0, 0, 0}, {1, 0, 0, 0, 0}, {3, 3, 0, 3, 3}, {3, 3, 0, 1, 3},
            {2, 1, 2, 0, 2}, {3, 2, 1, 3, 3}, {1, 3, 1, 1, 1}, {2, 2, 2, 2, 2}};
        for (int[] row : rows) {
            dueMiddle(row);
        }
    }

    private static void lawBesideOfSeveralTheLowest() {
        int[][] rows = {{0, 1, 2, 3, 0}, {3, 2, 1, 0, 0}, {3, 3, 2, 2, 2}, {2, 3, 3, 2, 2},
            {1, 1, 0, 0, 0}, {3, 3, 1, 1, 1}, {1, 2, 3, 1, 1}, {3, 2, 3, 2, 2}};
        for (int[] row : rows) {
            dueMiddle(row);
        }
        // Two that are alone beside it, two of nobody's.
        dueMiddle(new int[] {3, N, N, 1, 1});
        dueMiddle(new int[] {N, 2, 3, N, 2});
        dueMiddle(new int[] {N, 3, 3, 1, 3});
    }

    private static void lawBesideNoneHadOne() {
        dueMiddle(new int[] {N, N, N, N, N});
        dueMiddle(new int[] {N, N, N, 3, 3});
        dueMiddle(new int[] {0, N, N, N, 0});
    }

    private static void dueMiddle(int[] row) {
        int[] cells = {1, 3, 5, 7};
        StringBuilder text = new StringBuilder("r3,3;d21;l1;");
        for (int i = 0; i < 4; i++) {
            if (row[i] != N) {
                text.append("f").append(row[i]).append(",").append(cells[i]).append(",")
                        .append(cells[i]).append(";");
            }
        }
        // What is on the map in the middle and at the corners says nothing.
        text.append("f1,4,4;f1,0,0;f1,2,2;f1,6,6;f1,8,8;");
        IceInherited ice = Due.laid(text.toString());
        ice.saw(4);
        ice.pass(1);
        Due.due(text.toString(), ice.cell(4, 2), row[4]);
    }

    private static void lawBesideLooksAheadOfTheDay() {
        // 1 . . . 3: all freeze at once, and only those at the ends have one beside them.
        IceInherited ice = Due.laid("r2,5;f1,0,5;f3,4,9;d21;l1;");
        for (int x : new int[] {1, 2, 3, 6, 7, 8}) {
            ice.saw(x);
        }
        ice.pass(1);
        Due.dueCells("at once", ice, 2, 1, 1, N, 3, 3, 1, 1, N, 3, 3);
        // Sold ahead of the day, it is as sold that it counts.
        IceInherited sold = Due.laid("r2,2;f0,0,3;d21;l1;");
        sold.saw(0);
        sold.sell(1, 2);
        sold.sell(2, 2);
        sold.pass(1);
        Due.dueCells("as sold", sold, 2, 2, 2, 2, 0);
        // Where all were open ahead of the day there is nobody to be of.
        IceInherited open = Due.laid("r2,2;f0,0,3;i0;d21;l1;");
        open.pass(1);
        Due.dueCells("all open", open, 2, N, N, N, N);
        open.pass(1);
        Due.dueCells("and so it stays", open, 2, N, N, N, N);
    }

    private static void lawBesideLooksAtFourSides() {
        // The end of a row is not beside the begin of the next one, nor the last row the first.
        int[][] rows = {{2, 3}, {3, 2}, {5, 6}, {6, 5}, {0, 6}, {6, 0}, {0, 2}, {8, 0}};
        for (int[] row : rows) {
            IceInherited ice = Due.laid("r3,3;f2," + row[1] + "," + row[1] + ";d21;l1;");
            ice.saw(row[0]);
            ice.pass(1);
            Due.due(row[1] + " is not beside " + row[0], ice.cell(row[0], 2), N);
        }
        int[][] pairs = {{0, 1}, {1, 0}, {2, 5}, {5, 2}, {8, 7}, {7, 8}, {6, 3}, {3, 6}};
        for (int[] pair : pairs) {
            IceInherited ice = Due.laid("r3,3;f2," + pair[1] + "," + pair[1] + ";d21;l1;");
            ice.saw(pair[0]);
            ice.pass(1);
            Due.due(pair[1] + " is beside " + pair[0], ice.cell(pair[0], 2), 2);
        }
    }

    private static void lawNobody() {
        IceInherited ice = Due.laid("r2,2;f0,0,3;d20;d21;l2;");
        ice.saw(3);
        ice.pass(1);
        Due.dueCells("not frozen", ice, 2, 0, 0, 0, N);
        ice.pass(1);
        Due.dueCells("frozen", ice, 2, 0, 0, 0, N);
        Due.due("with ice", ice.count(4), 4);
        Due.due("somebody's", ice.count(5), 3);
    }

    private static void aChannelIsAlwaysNobodys() {
        for (int law = 0; law <= 2; law++) {
            IceInherited ice = Due.laid("r2,2;k0,2;f1,0,3;i1;d21;d22;d40;d0;d40;l" + law + ";");
            for (int day = 0; day <= 5; day++) {
                Due.due("day " + day, ice.cell(0, 2), N);
                Due.due("sell a channel", ice.sell(0, 2), Due.NO);
                Due.due("its floe", ice.cell(0, 5), 0);
                ice.pass(1);
            }
            ice.saw(0);
            ice.pass(3);
            Due.due("anew", ice.cell(0, 2), N);
        }
        // It has no voice beside another cell.
        IceInherited ice = Due.laid("r2,2;k1,2;k2,2;f1,0,3;d22;l1;");
        ice.saw(0);
        ice.pass(1);
        Due.due("beside two channels", ice.cell(0, 2), N);
    }

    private static void sawOfACellWithIce() {
        Due.due("an inch", Due.laid("r2,2;i1;").saw(0), 1);
        Due.due("a channel", Due.laid("r2,2;k3,2;i40;").saw(3), 9);
        IceInherited ice = Due.laid("r2,2;f0,0,3;i40;d40;");
        ice.pass(1);
        Due.due("the most", ice.saw(3), 60);
        Due.due("0 inches", ice.cell(3, 1), 0);
        Due.due("nobody's", ice.cell(3, 2), N);
        Due.dueCells("the others", ice, 1, 60, 60, 60, 0);
        Due.dueCells("the others", ice, 2, 0, 0, 0, N);
        Due.due("to be undone", ice.count(8), 2);
        Due.due("the day stays", ice.count(3), 1);
    }

    private static void sawOfNoCellOrNoIce() {
        Due.due("the last", Due.laid("r2,3;").saw(5), 3);
        Twins.dueRefused("saw(6)", DaysEdgeTest::aRiver, river -> river.saw(6), Due.BAD);
        for (int x : FAR) {
            Twins.dueRefused("saw(" + x + ")", DaysEdgeTest::aRiver, river -> river.saw(x),
                    Due.BAD);
        }
        Twins.dueRefused("saw of a sawn one", DaysEdgeTest::aRiver, river -> river.saw(3), Due.NO);
        Twins.dueRefused("saw without ice", () -> Due.laid("r2,3;i0;"), river -> river.saw(0),
                Due.NO);
        IceInherited ice = Due.laid("r2,2;f0,0,3;i1;d19;");
        ice.pass(1);
        Due.due("saw of what thawed", ice.saw(0), Due.NO);
        Due.due("one to be undone", ice.count(8), 1);
    }

    private static void sellToAFamily() {
        for (int seller = 0; seller <= 3; seller++) {
            for (int buyer = 0; buyer <= 3; buyer++) {
                IceInherited ice = Due.laid("r2,2;f" + seller + ",0,3;");
                boolean own = seller == buyer;
                Due.due("sell", ice.sell(3, buyer), own ? Due.NO : seller);
                Due.due("whose", ice.cell(3, 2), buyer);
                Due.due("to be undone", ice.count(8), own ? 0 : 1);
            }
        }
        Twins.dueRefused("sell(6, 0)", DaysEdgeTest::aRiver, river -> river.sell(6, 0), Due.BAD);
        Twins.dueRefused("sell(0, 4)", DaysEdgeTest::aRiver, river -> river.sell(0, 4), Due.BAD);
        for (int far : FAR) {
            Twins.dueRefused("sell(" + far + ", 0)", DaysEdgeTest::aRiver,
                    river -> river.sell(far, 0), Due.BAD);
            Twins.dueRefused("sell(0, " + far + ")", DaysEdgeTest::aRiver,
                    river -> river.sell(0, far), Due.BAD);
        }
        // BAD ahead of NO: a family that is none, for a cell that cannot be sold.
        Twins.dueRefused("sell(5, 4)", DaysEdgeTest::aRiver, river -> river.sell(5, 4), Due.BAD);
        Twins.dueRefused("sell(3, -1)", DaysEdgeTest::aRiver, river -> river.sell(3, -1), Due.BAD);
        Twins.dueRefused("sell(3, -4)", DaysEdgeTest::aRiver, river -> river.sell(3, -4), Due.BAD);
    }

    private static void sellOfNobodysOrItsOwn() {
        Twins.dueRefused("sell its own", DaysEdgeTest::aRiver, river -> river.sell(0, 0), Due.NO);
        Twins.dueRefused("sell nobody's", DaysEdgeTest::aRiver, river -> river.sell(2, 0), Due.NO);
        Twins.dueRefused("sell water", DaysEdgeTest::aRiver, river -> river.sell(3, 0), Due.NO);
        Twins.dueRefused("sell a channel", DaysEdgeTest::aRiver, river -> river.sell(5, 0), Due.NO);
        IceInherited ice = aRiver();
        Due.due("sell another's", ice.sell(4, 0), 1);
        Due.due("then its own", ice.sell(4, 0), Due.NO);
        Due.due("and back", ice.sell(4, 1), 0);
        Due.due("inches stay", ice.cell(4, 1), 9);
    }

    private static void undoOfNothing() {
        Twins.dueRefused("undo at first", IceInherited::new, IceInherited::undo, Due.NO);
        IceInherited ice = Due.laid("r2,2;f0,0,3;");
        Due.due("undo", ice.undo(), Due.NO);
        ice.saw(0);
        Due.due("undo the one", ice.undo(), 0);
        Due.due("undo", ice.undo(), Due.NO);
        Due.due("as before", ice.cell(0, 1), 3);
        Twins.dueRefused("undo behind back", () -> {
            IceInherited river = aRiver();
            river.back();
            return river;
        }, IceInherited::undo, Due.NO);
        Twins.dueRefused("undo behind lay", () -> {
            IceInherited river = aRiver();
            river.lay();
            return river;
        }, IceInherited::undo, Due.NO);
    }

    private static void theLastEightCanBeUndone() {
        for (int sales = 1; sales <= 20; sales++) {
            IceInherited ice = Due.laid("r2,2;f0,0,3;");
            for (int i = 1; i <= sales; i++) {
                ice.sell(0, i % 4);
                Due.due("can be undone", ice.count(8), Math.min(8, i));
            }
            int can = Math.min(8, sales);
            for (int i = 1; i <= can; i++) {
                Due.due("undo of " + sales, ice.undo(), can - i);
                Due.due("as it was", ice.cell(0, 2), (sales - i) % 4);
            }
            Due.due("no more of " + sales, ice.undo(), Due.NO);
            Due.due("it stays", ice.cell(0, 2), (sales - can) % 4);
        }
        // What is undone makes room again, and what is done then is undone first.
        IceInherited ice = Due.laid("r2,2;f0,0,3;");
        for (int i = 1; i <= 9; i++) {
            ice.sell(0, i % 4);
        }
        ice.undo();
        ice.undo();
        Due.due("six are left", ice.count(8), 6);
        for (int i = 1; i <= 3; i++) {
            ice.pass(i);
        }
        Due.due("eight again", ice.count(8), 8);
        for (int left = 7; left >= 5; left--) {
            Due.due("undo of days", ice.undo(), left);
        }
        Due.due("day 0", ice.count(3), 0);
        Due.due("sold seven times", ice.cell(0, 2), 7 % 4);
        for (int left = 4; left >= 0; left--) {
            Due.due("undo of sales", ice.undo(), left);
        }
        Due.due("sold twice", ice.cell(0, 2), 2);
    }

    private static void theLastEightDaysAndSawings() {
        for (int often = 7; often <= 18; often++) {
            IceInherited ice = Due.laid("r2,2;f0,0,3;i3;d21;");
            for (int i = 1; i <= often; i++) {
                Due.due("pass", ice.pass(1), i);
            }
            int can = Math.min(8, often);
            for (int i = 1; i <= can; i++) {
                Due.due("undo of " + often, ice.undo(), can - i);
                Due.due("the day", ice.count(3), often - i);
                Due.dueCells("inches", ice, 1, 3 + often - i, 3 + often - i);
            }
            Due.due("no more", ice.undo(), Due.NO);
            Due.due("the day stays", ice.count(3), often - can);
        }
        // Nine are sawn: the first of them stays so.
        IceInherited ice = Due.laid("r3,3;f2,0,8;");
        for (int x = 0; x < 9; x++) {
            ice.saw(x);
        }
        for (int x = 8; x >= 1; x--) {
            Due.due("undo", ice.undo(), x - 1);
            Due.due("its inches", ice.cell(x, 1), 3);
            Due.due("whose", ice.cell(x, 2), 2);
            Due.due("the one before is sawn", ice.cell(x - 1, 1), 0);
        }
        Due.due("no more", ice.undo(), Due.NO);
        Due.dueCells("the first is sawn", ice, 1, 0, 3, 3, 3, 3, 3, 3, 3, 3);
        Due.dueCells("nobody's", ice, 2, N, 2, 2, 2, 2, 2, 2, 2, 2);
    }

    private static void whatGoesByAtOneTimeIsOne() {
        IceInherited ice = Due.laid("r2,2;i0;d21;");
        ice.pass(30);
        Due.due("one", ice.count(8), 1);
        ice.pass(1);
        ice.pass(1);
        Due.due("three", ice.count(8), 3);
        Due.due("undo", ice.undo(), 2);
        Due.due("31 days", ice.cell(0, 1), 31);
        Due.due("undo", ice.undo(), 1);
        Due.due("30 days", ice.cell(0, 1), 30);
        Due.due("undo", ice.undo(), 0);
        Due.due("no day", ice.cell(0, 1), 0);
        Due.due("no day", ice.count(3), 0);
    }

    private static void eachKindIsUndone() {
        IceInherited ice = Due.laid("r2,2;f0,0,3;i2;d18;d22;");
        ice.pass(1);
        Due.dueCells("thawed", ice, 2, N, N, N, N);
        ice.undo();
        Due.dueCells("the inches", ice, 1, 2, 2, 2, 2);
        Due.dueCells("the owners", ice, 2, 0, 0, 0, 0);
        ice.saw(1);
        ice.undo();
        Due.dueCells("the inches", ice, 1, 2, 2, 2, 2);
        Due.dueCells("the owners", ice, 2, 0, 0, 0, 0);
        ice.sell(2, 3);
        ice.undo();
        Due.dueCells("the owners", ice, 2, 0, 0, 0, 0);
        ice.pass(2);
        Due.due("the days are those again", ice.count(3), 2);
        Due.dueCells("the same days", ice, 1, 2, 2, 2, 2);
    }

    private static void refusedCallsTakeNoPlace() {
        IceInherited ice = Due.laid("r2,2;f0,0,3;k3,2;");
        ice.wipe();
        for (int i = 1; i <= 8; i++) {
            ice.sell(0, i % 4);
        }
        Due.due("no day", ice.pass(0), Due.BAD);
        Due.due("too many days", ice.pass(31), Due.BAD);
        Due.due("no cell", ice.saw(4), Due.BAD);
        Due.due("its own", ice.sell(0, 0), Due.NO);
        Due.due("nobody's", ice.sell(3, 1), Due.NO);
        Due.due("no family", ice.sell(0, 4), Due.BAD);
        Due.due("nothing kept", ice.back(), Due.NO);
        Due.due("no text", ice.lay(), Due.NO);
        // Nor do calls that are none of the three that can be undone.
        ice.keep();
        ice.drill(0, 1);
        ice.write('x');
        ice.forget();
        for (int i = 7; i >= 0; i--) {
            Due.due("undo", ice.undo(), i);
            Due.due("sold " + i + " times", ice.cell(0, 2), i % 4);
        }
    }

    private static void undoLeavesTheRest() {
        IceInherited ice = aRiver();
        ice.saw(0);
        Due.due("undo", ice.undo(), 2);
        Due.due("drilled", ice.count(7), 1);
        Due.due("kept", ice.count(9), 1);
        Due.due("letters", ice.count(10), 43);
        Due.due("undo the sawing", ice.undo(), 1);
        Due.due("undo the day", ice.undo(), 0);
        Due.due("back to what was kept", ice.back(), 0);
        Due.due("day 1", ice.count(3), 1);
        Due.due("sawn", ice.cell(3, 1), 0);
    }
}
