/**
 * Promises 13 to 19 (block 3 of the terms): each sentence that names a boundary has a test of its
 * own here, on both sides of it.
 */
public final class AheadEdgeTest {
    private static final int N = Due.NONE;
    private static final int[] FAR = {Integer.MIN_VALUE, -65536, -101, -5, -4, -3, -2, -1, 1000,
        65536, Integer.MAX_VALUE};

    public static void main(String[] args) {
        behindIsOf0To60Days();
        behindTellsTwoThings();
        behindIsOfCellsThatThereAre();
        behindKeepsToTheLimits();
        landlessIsBehindDay1AtFirst();
        landlessIsIn60Days();
        landlessIsOfThoseThatHaveCellsNow();
        landlessOfSeveralTheLowest();
        landlessWhoIsFirst();
        landlessTellsTwoThings();
        fallsIsOfWeights1To99();
        fallsWhereItDoesNotBear();
        fallsNow();
        fallsIn60Days();
        fallsAtFirst();
        tollIsOfWeights1To99();
        tollIsOfCellsAndFamilies();
        tollWhereAllBearTheWeight();
        tollOfItsEndsToo();
        tollIsTheLeastSum();
        tollOfTheLongestWay();
        tollOfNoWay();
        weddingIsOf1To50Guests();
        weddingIsOfWeights1To99();
        weddingIfItBearsAllTogether();
        weddingWhereMostIsBorne();
        weddingOfItsCells();
        strawIsThinnerBy0To9();
        strawIsKept0To60Days();
        strawIsOf1To999Inches();
        strawIs0InchesAtLeast();
        strawIsTheFewest();
        strawOfItsCellsEachOnce();
        splitIfItWouldBeLess();
        splitOfSeveralTheLowest();
        splitOfOthersIce();
        splitTellsTwoThings();
        Due.end();
    }

    private static IceInherited aRiver() {
        IceInherited ice = Due.laid("r2,3;k1,1;k5,2;f0,0,4;f1,4,5;i6;d23;d15;l1;");
        ice.pass(1);
        ice.saw(3);
        ice.keep();
        ice.drill(0, 5);
        return ice;
    }

    private static void dueBad(String call, Twins.Asked asked) {
        Twins.dueRefused(call, AheadEdgeTest::aRiver, asked, Due.BAD);
    }

    private static void dueNone(String call, Twins.Asked asked) {
        Twins.dueRefused(call, AheadEdgeTest::aRiver, asked, N);
    }

    private static void behindIsOf0To60Days() {
        IceInherited ice = Due.laid("r2,2;i0;d21;");
        for (int n = 0; n <= 60; n++) {
            Due.due("behind " + n, ice.behind(n, 0, 0), n);
        }
        Due.due("now", ice.cell(0, 1), 0);
        dueBad("behind 61", river -> river.behind(61, 0, 0));
        dueBad("behind 61, whose", river -> river.behind(61, 0, 1));
        for (int n : FAR) {
            dueBad("behind " + n, river -> river.behind(n, 0, 0));
        }
    }

    private static void behindTellsTwoThings() {
        IceInherited ice = Due.laid("r2,2;f3,0,1;i2;d19;");
        Due.due("inches", ice.behind(1, 0, 0), 1);
        Due.due("whose", ice.behind(1, 0, 1), 3);
        Due.due("no inch", ice.behind(2, 0, 0), 0);
        Due.due("none", ice.behind(2, 0, 1), N);
        Due.due("nobody's", ice.behind(0, 3, 1), N);
        dueBad("behind, 2", river -> river.behind(1, 0, 2));
        for (int what : FAR) {
            dueBad("behind, " + what, river -> river.behind(1, 0, what));
        }
    }

    private static void behindIsOfCellsThatThereAre() {
        IceInherited ice = Due.laid("r2,3;");
        Due.due("the first", ice.behind(0, 0, 0), 3);
        Due.due("the last", ice.behind(0, 5, 0), 3);
        dueBad("behind of 6", river -> river.behind(0, 6, 0));
        for (int x : FAR) {
            dueBad("behind of " + x, river -> river.behind(0, x, 1));
        }
        dueNone("behind of nobody's", river -> river.behind(0, 2, 1));
    }

    private static void behindKeepsToTheLimits() {
        IceInherited ice = Due.laid("r2,2;k1,2;i1;d21;d22;");
        Due.due("59 inches", ice.behind(38, 0, 0), 58);
        Due.due("59 inches", ice.behind(39, 0, 0), 59);
        Due.due("60 inches at most", ice.behind(40, 0, 0), 60);
        Due.due("60 inches at most", ice.behind(60, 0, 0), 60);
        Due.due("a channel of 8", ice.behind(15, 1, 0), 8);
        Due.due("a channel of 9", ice.behind(16, 1, 0), 9);
        Due.due("9 at most", ice.behind(18, 1, 0), 9);
        Due.due("always nobody's", Due.laid("r2,2;k1,2;f0,0,3;i0;d30;").behind(3, 1, 1), N);
        IceInherited thaw = Due.laid("r2,2;i2;d19;");
        Due.due("an inch", thaw.behind(1, 0, 0), 1);
        Due.due("none", thaw.behind(2, 0, 0), 0);
        Due.due("0 at least", thaw.behind(60, 0, 0), 0);
    }

    private static void dueLandless(String text, int who, int day) {
        IceInherited ice = Due.laid(text);
        Due.due("who of " + text, ice.landless(0), who);
        Due.due("behind which of " + text, ice.landless(1), day);
    }

    private static void landlessIsBehindDay1AtFirst() {
        dueLandless("r2,2;f2,0,3;i1;d19;", 2, 1);
        dueLandless("r2,2;f2,0,3;i2;d19;", 2, 2);
        dueLandless("r2,2;f2,0,3;i0;d19;", N, N);
        dueLandless("r2,2;f2,0,3;i1;d20;d19;", 2, 2);
    }

    private static void landlessIsIn60Days() {
        // Of two days one takes an inch: 30 of them are behind day 59 or 60, 31 behind 61 or 62.
        dueLandless("r2,2;f1,0,3;i30;d19;d20;", 1, 59);
        dueLandless("r2,2;f1,0,3;i30;d20;d19;", 1, 60);
        dueLandless("r2,2;f1,0,3;i31;d19;d20;", N, N);
        dueLandless("r2,2;f1,0,3;i31;d20;d19;", N, N);
        IceInherited ice = Due.laid("r2,2;f1,0,3;i31;d19;d20;");
        ice.pass(1);
        Due.due("60 from now on", ice.landless(1), 60);
        ice.pass(1);
        Due.due("59 from now on", ice.landless(1), 59);
        Due.due("who", ice.landless(0), 1);
    }

    private static void landlessIsOfThoseThatHaveCellsNow() {
        // On the map are 0 and 1; all that 0 had is sold to 1, who loses none in a frost.
        IceInherited ice = Due.laid("r2,2;f0,0,0;f1,1,3;f1,2,2;d21;");
        ice.sell(0, 1);
        Due.due("none of those that have any", ice.landless(0), N);
        Due.due("none of those that have any", ice.landless(1), N);
        // 0 gets a cell behind a day and loses it again: it has none now.
        IceInherited later = Due.laid("r2,2;f0,0,0;f1,1,3;f1,2,2;i30;d25;d10;d20;");
        later.saw(0);
        Due.due("0 has one behind day 1", later.behind(1, 0, 1), 0);
        Due.due("0 has none behind day 2", later.behind(2, 0, 1), N);
        Due.due("not the one without", later.landless(0), 1);
        Due.due("1 loses it later", later.landless(1), 17);
        Due.due("1 has some till then", later.behind(16, 1, 0), 10);
        Due.due("nobody has any", Due.laid("r2,2;i0;f0,0,3;d0;").landless(0), N);
    }

    private static void landlessOfSeveralTheLowest() {
        dueLandless("r2,2;f3,0,0;f2,1,1;f1,2,2;f0,3,3;i2;d19;", 0, 2);
        dueLandless("r2,2;f3,0,0;f2,1,1;f2,2,2;f3,3,3;i2;d19;", 2, 2);
        dueLandless("r2,2;f3,0,3;i2;d19;", 3, 2);
    }

    private static void landlessWhoIsFirst() {
        // A flowing cell thins by an inch more: 3 is first, though 0 is lower.
        dueLandless("r2,2;f0,0,0;f3,3,3;k3,1;i4;d19;", 3, 2);
        // Of 3's two the other one stays longer.
        dueLandless("r2,2;f0,0,0;f3,1,3;k3,1;i4;d19;", 0, 4);
        // It is enough to have none behind one day, though the next gives all back.
        dueLandless("r2,2;f1,0,3;i4;d16;d30;", 1, 1);
        dueLandless("r2,2;f1,0,3;i4;d17;d30;", N, N);
    }

    private static void landlessTellsTwoThings() {
        dueBad("landless(2)", river -> river.landless(2));
        for (int what : FAR) {
            dueBad("landless(" + what + ")", river -> river.landless(what));
            // BAD ahead of NONE.
            Due.due("landless where none is", Due.laid("r2,2;").landless(what), Due.BAD);
        }
        Twins.dueRefused("landless of none", () -> Due.laid("r2,3;f0,0,4;"),
                river -> river.landless(0), N);
        Twins.dueRefused("landless of none", () -> Due.laid("r2,3;f0,0,4;"),
                river -> river.landless(1), N);
    }

    private static void fallsIsOfWeights1To99() {
        IceInherited ice = Due.laid("r2,2;i1;");
        Due.due("falls(0, 1)", ice.falls(0, 1), N);
        Due.due("falls(0, 99)", ice.falls(0, 99), 0);
        dueBad("falls(0, 0)", river -> river.falls(0, 0));
        dueBad("falls(0, 100)", river -> river.falls(0, 100));
        dueBad("falls(6, 1)", river -> river.falls(6, 1));
        for (int far : FAR) {
            dueBad("falls(0, " + far + ")", river -> river.falls(0, far));
            dueBad("falls(" + far + ", 1)", river -> river.falls(far, 1));
        }
        Twins.dueRefused("falls not", () -> Due.laid("r2,3;"), river -> river.falls(5, 3), N);
    }

    private static void fallsWhereItDoesNotBear() {
        for (int w = 1; w <= 99; w++) {
            // 30 inches and an eighth of 60 bear 37; reeds bear half of it.
            IceInherited ice = Due.laid("r2,2;k3,3;i30;");
            Due.due("falls(0, " + w + ")", ice.falls(0, w), w <= 37 ? N : 0);
            Due.due("falls(3, " + w + ")", ice.falls(3, w), w <= 18 ? N : 0);
        }
        // Those beside it thin, too: 8 and 16 / 8, then 7 and 14 / 8, then 6 and 12 / 8.
        IceInherited ice = Due.laid("r2,2;i8;d19;");
        int[] bears = {10, 8, 7, 6, 5, 3, 2, 1, 0};
        for (int day = 0; day < 8; day++) {
            Due.due("falls behind " + day, ice.falls(0, bears[day]), day + 1);
            Due.due("falls at " + day, ice.falls(0, bears[day] + 1), day);
        }
    }

    private static void fallsNow() {
        Due.due("no ice", Due.laid("r2,2;i0;d40;").falls(0, 1), 0);
        IceInherited ice = Due.laid("r2,2;i5;d40;");
        Due.due("ice", ice.falls(0, 1), N);
        ice.saw(0);
        Due.due("sawn", ice.falls(0, 1), 0);
        Due.due("beside it", ice.falls(1, 5), N);
        Due.due("beside it", ice.falls(1, 6), 0);
    }

    private static void fallsIn60Days() {
        Due.due("behind 59", Due.laid("r2,2;i30;d19;d20;").falls(0, 1), 59);
        Due.due("behind 60", Due.laid("r2,2;i30;d20;d19;").falls(0, 1), 60);
        Due.due("behind 61", Due.laid("r2,2;i31;d19;d20;").falls(0, 1), N);
        IceInherited ice = Due.laid("r2,2;i31;d19;d20;");
        ice.pass(1);
        Due.due("behind 60 from now on", ice.falls(0, 1), 60);
    }

    private static void fallsAtFirst() {
        // It bears 4 now, 1 behind a day, 11 and an eighth of 22 behind two.
        IceInherited ice = Due.laid("r2,2;i4;d17;d30;");
        Due.due("the first day of many", ice.falls(0, 2), 1);
        Due.due("the first day of many", ice.falls(0, 5), 1);
        Due.due("now", ice.falls(0, 6), 0);
        Due.due("the frost makes up for it", ice.falls(0, 1), N);
    }

    private static void tollIsOfWeights1To99() {
        IceInherited ice = Due.laid("r3,3;f2,0,8;i40;d40;");
        ice.pass(1);
        Due.due("toll of 1", ice.toll(2, 1, 0, 8), 0);
        Due.due("toll of 90", ice.toll(2, 90, 4, 4), 0);
        Due.due("toll of 91", ice.toll(2, 91, 4, 4), N);
        Due.due("toll of 99", ice.toll(2, 99, 4, 4), N);
        dueBad("toll of 0", river -> river.toll(0, 0, 0, 1));
        dueBad("toll of 100", river -> river.toll(0, 100, 0, 1));
        for (int w : FAR) {
            dueBad("toll of " + w, river -> river.toll(0, w, 0, 1));
        }
    }

    private static void tollIsOfCellsAndFamilies() {
        IceInherited ice = Due.laid("r2,3;f0,0,0;f3,5,5;");
        Due.due("for 0", ice.toll(0, 1, 0, 0), 0);
        Due.due("for 3", ice.toll(3, 1, 0, 0), 3);
        Due.due("for 3", ice.toll(3, 1, 5, 5), 0);
        Due.due("to the last", ice.toll(0, 1, 0, 5), 5);
        Due.due("from the last", ice.toll(3, 1, 5, 0), 5);
        dueBad("toll for 4", river -> river.toll(4, 1, 0, 1));
        dueBad("toll from 6", river -> river.toll(0, 1, 6, 1));
        dueBad("toll to 6", river -> river.toll(0, 1, 0, 6));
        for (int far : FAR) {
            dueBad("toll for " + far, river -> river.toll(far, 1, 0, 1));
            dueBad("toll from " + far, river -> river.toll(0, 1, far, 1));
            dueBad("toll to " + far, river -> river.toll(0, 1, 0, far));
            // BAD ahead of NONE: 3 is sawn.
            dueBad("toll from water to " + far, river -> river.toll(0, 1, 3, far));
        }
    }

    private static void tollWhereAllBearTheWeight() {
        // 10 11 10 / 10 11 10.
        IceInherited ice = Due.laid("r2,3;f0,0,5;i8;");
        Due.due("as much as they bear", ice.toll(0, 10, 0, 2), 0);
        Due.due("an inch too much", ice.toll(0, 11, 0, 2), N);
        Due.due("as much as they bear", ice.toll(0, 11, 1, 4), 0);
        Due.due("an inch too much", ice.toll(0, 12, 1, 4), N);
        // a or b alone does not bear it.
        Due.due("a does not", ice.toll(0, 11, 0, 1), N);
        Due.due("b does not", ice.toll(0, 11, 1, 0), N);
        Due.due("one that does, alone", ice.toll(0, 11, 1, 1), 0);
        Due.due("one that does not, alone", ice.toll(0, 11, 0, 0), N);
        // Reeds between them bear 5.
        IceInherited reeds = Due.laid("r2,3;f0,0,5;k1,3;k4,3;i8;");
        Due.due("over reeds", reeds.toll(0, 5, 0, 2), 0);
        Due.due("not over reeds", reeds.toll(0, 6, 0, 2), N);
    }

    private static void tollOfItsEndsToo() {
        // 0 . 1 / 0 . 1: its own, nobody's, another's.
        IceInherited ice = Due.laid("r2,3;f0,0,3;f1,2,5;");
        int[][] rows = {{0, 0, 0}, {1, 1, 1}, {2, 2, 3}, {0, 3, 0}, {1, 4, 2}, {2, 5, 6},
            {0, 1, 1}, {1, 2, 4}, {0, 2, 4}, {2, 0, 4}, {0, 5, 4}, {5, 3, 4}};
        for (int[] row : rows) {
            Due.due("toll of 0 from " + row[0] + " to " + row[1], ice.toll(0, 1, row[0], row[1]),
                    row[2]);
        }
        Due.due("of 1", ice.toll(1, 1, 0, 2), 4);
        Due.due("of 2", ice.toll(2, 1, 0, 2), 7);
        // A channel is nobody's.
        Due.due("a channel", Due.laid("r2,2;k0,2;f1,0,3;").toll(0, 1, 0, 0), 1);
    }

    private static void tollIsTheLeastSum() {
        // Straight on over 1's two cells is 6, round over nobody's four 4.
        IceInherited ice = Due.laid("r2,4;f0,0,0;f0,3,3;f1,1,2;");
        Due.due("round", ice.toll(0, 1, 0, 3), 4);
        ice.saw(4);
        Due.due("straight on", ice.toll(0, 1, 0, 3), 6);
        // Over one of 1's 3, round over nobody's three 3: as dear.
        Due.due("as dear", Due.laid("r2,3;f0,0,0;f0,2,2;f1,1,1;").toll(0, 1, 0, 2), 3);
        // The dear cell is reached first, the cheap way round comes later.
        IceInherited late = Due.laid("r3,5;f0,0,14;f1,1,3;");
        Due.due("its own all the way", late.toll(0, 1, 0, 4), 0);
        Due.due("to the middle of 1's", late.toll(0, 1, 0, 2), 3);
    }

    private static void tollOfTheLongestWay() {
        // Rows 1, 3 and 5 are sawn but for one end each: 31 cells from the first row's begin to
        // the last one's.
        IceInherited ice = Due.laid("r7,7;f1,0,48;");
        for (int i = 0; i < 6; i++) {
            ice.saw(7 + i);
            ice.saw(22 + i);
            ice.saw(35 + i);
        }
        Due.due("of 31 cells", ice.family(1, 0), 31);
        Due.due("3 each", ice.toll(0, 1, 0, 42), 93);
        Due.due("3 each, back", ice.toll(0, 1, 42, 0), 93);
        Due.due("its own", ice.toll(1, 1, 0, 42), 0);
        Due.due("nobody's", windingOfNobody().toll(0, 1, 0, 42), 31);
    }

    private static IceInherited windingOfNobody() {
        IceInherited ice = Due.laid("r7,7;");
        for (int i = 0; i < 6; i++) {
            ice.saw(7 + i);
            ice.saw(22 + i);
            ice.saw(35 + i);
        }
        return ice;
    }

    private static void tollOfNoWay() {
        dueNone("from water", river -> river.toll(0, 1, 3, 0));
        dueNone("to water", river -> river.toll(0, 1, 0, 3));
        dueNone("in water", river -> river.toll(0, 1, 3, 3));
        dueNone("too heavy", river -> river.toll(0, 99, 0, 1));
        // Corners are not beside each other, nor is a row's end beside the next one's begin.
        IceInherited ice = Due.laid("r3,3;");
        ice.saw(1);
        ice.saw(3);
        Due.due("over a corner", ice.toll(0, 1, 0, 4), N);
        Due.due("cut off", ice.toll(0, 1, 0, 8), N);
        Due.due("the others", ice.toll(0, 1, 2, 6), 5);
        IceInherited ends = Due.laid("r3,2;");
        ends.saw(0);
        ends.saw(3);
        Due.due("1 and 2", ends.toll(0, 1, 1, 2), N);
    }

    private static void weddingIsOf1To50Guests() {
        // 40 inches and an eighth of 80 bear 50; 39 and an eighth of 78 bear 48.
        Due.due("50 guests", Due.laid("r2,2;f1,0,3;i40;").wedding(1, 50, 1, 0), 0);
        Due.due("50 guests", Due.laid("r2,2;f1,0,3;i40;").wedding(1, 50, 1, 1), 4);
        Due.due("50 guests", Due.laid("r2,2;f1,0,3;i39;").wedding(1, 50, 1, 0), N);
        Due.due("50 guests", Due.laid("r2,2;f1,0,3;i39;").wedding(1, 50, 1, 1), 0);
        // An inch bears 1, an inch of reeds nothing.
        Due.due("1 guest", Due.laid("r2,2;f1,0,3;i1;").wedding(1, 1, 1, 0), 0);
        Due.due("1 guest", Due.laid("r2,2;f1,0,3;i1;").wedding(1, 1, 1, 1), 4);
        Due.due("1 guest not on reeds", Due.laid("r2,2;f1,0,3;k0,3;i1;").wedding(1, 1, 1, 0), 1);
        Due.due("1 guest not on reeds", Due.laid("r2,2;f1,0,3;k0,3;i1;").wedding(1, 1, 1, 1), 3);
        dueBad("no guests", river -> river.wedding(0, 0, 1, 0));
        dueBad("51 guests", river -> river.wedding(0, 51, 1, 0));
        dueBad("51 guests, on how many", river -> river.wedding(0, 51, 1, 1));
        for (int n : FAR) {
            dueBad(n + " guests", river -> river.wedding(0, n, 1, 1));
        }
    }

    private static void weddingIsOfWeights1To99() {
        IceInherited ice = Due.laid("r3,3;f2,0,8;i40;d40;");
        ice.pass(1);
        Due.due("of 90", ice.wedding(2, 1, 90, 0), 4);
        Due.due("of 90", ice.wedding(2, 1, 90, 1), 1);
        Due.due("of 91", ice.wedding(2, 1, 91, 0), N);
        Due.due("of 99", ice.wedding(2, 1, 99, 1), 0);
        Due.due("of 99, 50 of them", ice.wedding(2, 50, 99, 0), N);
        dueBad("of 0", river -> river.wedding(0, 1, 0, 0));
        dueBad("of 100", river -> river.wedding(0, 1, 100, 0));
        dueBad("wedding of 6", river -> river.wedding(4, 1, 1, 0));
        dueBad("wedding, 2", river -> river.wedding(0, 1, 1, 2));
        for (int far : FAR) {
            dueBad("of " + far, river -> river.wedding(0, 1, far, 0));
            dueBad("of family " + far, river -> river.wedding(far, 1, 1, 1));
            // BAD ahead of NONE: 3 has no cell.
            dueBad("wedding, " + far, river -> river.wedding(3, 50, 99, far));
        }
    }

    private static void weddingIfItBearsAllTogether() {
        // 10 11 10 / 10 11 10.
        IceInherited ice = Due.laid("r2,3;f0,0,5;i8;");
        int[][] rows = {{1, 11, 1, 2}, {11, 1, 1, 2}, {1, 12, N, 0}, {12, 1, N, 0}, {2, 5, 1, 6},
            {5, 2, 1, 6}, {2, 6, N, 0}, {3, 3, 1, 6}, {3, 4, N, 0}, {1, 10, 1, 6}, {10, 1, 1, 6}};
        for (int[] row : rows) {
            String name = row[0] + " guests of " + row[1];
            Due.due(name, ice.wedding(0, row[0], row[1], 0), row[2]);
            Due.due(name, ice.wedding(0, row[0], row[1], 1), row[3]);
        }
        dueNone("too many", river -> river.wedding(0, 50, 99, 0));
        // Together, not one behind the other: guests of 1, 11 on a cell.
        Due.due("one each would do", ice.wedding(0, 6, 10, 0), N);
    }

    private static void weddingWhereMostIsBorne() {
        // Of several the lowest: 0 to 3 bear alike.
        Due.due("the lowest", Due.laid("r2,2;f0,0,3;").wedding(0, 1, 1, 0), 0);
        Due.due("the lowest of its own", Due.laid("r2,2;f0,2,3;").wedding(0, 1, 1, 0), 2);
        // The middle of three by three bears most, reeds there least.
        Due.due("the most", Due.laid("r3,3;f0,0,8;i8;").wedding(0, 1, 1, 0), 4);
        Due.due("not reeds", Due.laid("r3,3;f0,0,8;k4,3;i8;").wedding(0, 1, 1, 0), 1);
        Due.due("reeds, too", Due.laid("r3,3;f0,0,8;k4,3;i8;").wedding(0, 1, 6, 1), 9);
        Due.due("reeds not", Due.laid("r3,3;f0,0,8;k4,3;i8;").wedding(0, 1, 7, 1), 8);
    }

    private static void weddingOfItsCells() {
        IceInherited ice = Due.laid("r3,3;f0,0,2;f1,3,8;i8;k8,2;");
        Due.due("another's bears more", ice.wedding(0, 1, 1, 0), 1);
        Due.due("its own alone", ice.wedding(0, 1, 1, 1), 3);
        Due.due("no channel", ice.wedding(1, 1, 1, 1), 5);
        Due.due("no family without cells", ice.wedding(2, 1, 1, 0), N);
        Due.due("no family without cells", ice.wedding(2, 1, 1, 1), 0);
        ice.saw(1);
        Due.due("no sawn one", ice.wedding(0, 1, 1, 1), 2);
    }

    private static void strawIsThinnerBy0To9() {
        IceInherited ice = Due.laid("r2,2;f0,0,3;i10;");
        Due.due("by 0", ice.straw(0, 0, 60, 40), 4);
        Due.due("by 0", ice.straw(0, 0, 60, 41), N);
        Due.due("by 9", ice.straw(0, 9, 1, 4), 4);
        Due.due("by 9", ice.straw(0, 9, 1, 5), N);
        dueBad("by 10", river -> river.straw(0, 10, 1, 1));
        for (int m : FAR) {
            dueBad("by " + m, river -> river.straw(0, m, 1, 1));
            dueBad("by " + m + ", no day", river -> river.straw(0, m, 0, 1));
        }
    }

    private static void strawIsKept0To60Days() {
        IceInherited ice = Due.laid("r7,7;f0,0,48;i40;d40;");
        ice.pass(1);
        Due.due("no day", ice.straw(0, 9, 0, 60), 1);
        Due.due("59 days", ice.straw(0, 1, 59, 49), 49);
        Due.due("59 days", ice.straw(0, 1, 59, 50), N);
        Due.due("60 days", ice.straw(0, 1, 60, 1), N);
        Due.due("60 days by 0", ice.straw(0, 0, 60, 60), 1);
        dueBad("61 days", river -> river.straw(0, 0, 61, 1));
        for (int d : FAR) {
            dueBad(d + " days", river -> river.straw(0, 0, d, 1));
        }
    }

    private static void strawIsOf1To999Inches() {
        IceInherited ice = Due.laid("r7,7;f0,0,48;i40;d40;");
        ice.pass(1);
        Due.due("1", ice.straw(0, 0, 0, 1), 1);
        Due.due("60", ice.straw(0, 0, 0, 60), 1);
        Due.due("61", ice.straw(0, 0, 0, 61), 2);
        Due.due("960", ice.straw(0, 0, 0, 960), 16);
        Due.due("961", ice.straw(0, 0, 0, 961), 17);
        Due.due("999", ice.straw(0, 0, 0, 999), 17);
        Due.due("999 of 33 each", ice.straw(0, 9, 3, 999), 31);
        dueBad("0", river -> river.straw(0, 0, 0, 0));
        dueBad("1000", river -> river.straw(0, 0, 0, 1000));
        dueBad("for 4", river -> river.straw(4, 0, 0, 1));
        for (int far : FAR) {
            dueBad(far + " inches", river -> river.straw(0, 0, 0, far));
            // BAD ahead of NONE: 999 inches are not to be had.
            dueBad("for " + far, river -> river.straw(far, 9, 60, 999));
        }
    }

    private static void strawIs0InchesAtLeast() {
        // 9 and 3 inches: behind three days by 1 they are 6 and 0, behind four 5 and 0.
        IceInherited ice = Due.laid("r2,2;f0,0,1;i3;d26;");
        ice.saw(1);
        ice.pass(1);
        Due.due("9 inches", ice.cell(0, 1), 9);
        Due.due("6 inches", ice.cell(1, 1), 6);
        Due.due("5 days: 4 and 1", ice.straw(0, 1, 5, 5), 2);
        Due.due("5 days: 4 and 1", ice.straw(0, 1, 5, 6), N);
        Due.due("6 days: 3 and 0", ice.straw(0, 1, 6, 3), 1);
        Due.due("6 days: 3 and 0", ice.straw(0, 1, 6, 4), N);
        Due.due("7 days: 2 and 0, not less", ice.straw(0, 1, 7, 2), 1);
        Due.due("7 days: 2 and 0", ice.straw(0, 1, 7, 3), N);
        Due.due("8 days: 1", ice.straw(0, 1, 8, 1), 1);
        Due.due("9 days: none", ice.straw(0, 1, 9, 1), N);
        dueNone("all gone", river -> river.straw(0, 9, 60, 1));
    }

    private static void strawIsTheFewest() {
        // 9, 9, 6 and 4 inches: the thickest first, wherever they are.
        IceInherited ice = Due.laid("r2,2;f0,0,3;i3;k1,1;d26;");
        ice.saw(0);
        ice.saw(1);
        ice.pass(1);
        Due.dueCells("inches", ice, 1, 6, 5, 9, 9);
        int[] sums = {9, 18, 24, 29};
        for (int blocks = 1; blocks <= 4; blocks++) {
            Due.due("as many", ice.straw(0, 0, 0, sums[blocks - 1]), blocks);
            Due.due("an inch more", ice.straw(0, 0, 0, sums[blocks - 1] + 1),
                    blocks < 4 ? blocks + 1 : N);
        }
        // Each as thick as its ICE is now: the days of the river do not thin it.
        IceInherited thaw = Due.laid("r2,2;f0,0,3;i3;d0;");
        Due.due("as thick as now", thaw.straw(0, 0, 60, 12), 4);
    }

    private static void strawOfItsCellsEachOnce() {
        IceInherited ice = Due.laid("r2,3;f0,0,1;f1,3,5;k5,2;k2,2;i5;");
        Due.due("its two", ice.straw(0, 0, 0, 10), 2);
        Due.due("no third", ice.straw(0, 0, 0, 11), N);
        Due.due("no channel", ice.straw(1, 0, 0, 10), 2);
        Due.due("no channel", ice.straw(1, 0, 0, 11), N);
        Due.due("no cell", ice.straw(2, 0, 0, 1), N);
        ice.sell(0, 1);
        Due.due("one sold", ice.straw(0, 0, 0, 6), N);
        Due.due("one bought", ice.straw(1, 0, 0, 15), 3);
    }

    private static void dueSplit(String text, int f, int where, int large) {
        IceInherited ice = Due.laid(text);
        Due.due("where of " + text, ice.split(f, 0), where);
        Due.due("as large of " + text, ice.split(f, 1), large);
    }

    private static void splitIfItWouldBeLess() {
        dueSplit("r2,5;f0,0,0;", 0, 0, 0);
        dueSplit("r2,5;f0,3,4;", 0, 3, 1);
        dueSplit("r2,5;f0,0,2;", 0, 1, 1);
        dueSplit("r2,5;f0,0,4;", 0, 2, 2);
        // Two floes as large: one stays, and nothing is less than now.
        dueSplit("r2,5;f0,0,1;f0,3,4;", 0, N, N);
        dueSplit("r2,5;f0,0,0;f0,6,6;", 0, N, N);
        // One of 3, one of 2: less than 3 it is with 2, and any of the three does that.
        dueSplit("r2,7;f0,0,1;f0,4,6;", 0, 4, 2);
        // One of 3, two of 1.
        dueSplit("r2,7;f0,0,0;f0,2,4;f0,6,6;", 0, 3, 1);
        dueSplit("r2,5;", 0, N, N);
    }

    private static void splitOfSeveralTheLowest() {
        dueSplit("r2,2;f0,0,3;", 0, 0, 3);
        // Four in a row: either of the two in the middle leaves 2.
        dueSplit("r2,5;f0,0,3;", 0, 1, 2);
        dueSplit("r2,5;f0,6,9;", 0, 7, 2);
        // A ring of eight: every one leaves seven in a row.
        dueSplit("r3,3;f0,0,8;f1,4,4;", 0, 0, 7);
        dueSplit("r7,7;f3,0,48;", 3, 0, 48);
    }

    private static void splitOfOthersIce() {
        // 1's, nobody's and a channel's ice hang together with nobody of 0.
        dueSplit("r2,5;f1,0,0;k1,2;f0,5,7;", 0, 6, 1);
        // A channel joins nothing: 0's are two alone, of which one stays.
        dueSplit("r2,3;f0,0,5;k1,2;k4,2;", 0, N, N);
        dueSplit("r2,3;f0,0,5;k1,2;", 0, 4, 2);
        Due.due("cells of another stay", Due.laid("r2,3;f1,0,5;").split(0, 0), N);
    }

    private static void splitTellsTwoThings() {
        IceInherited ice = Due.laid("r2,5;f3,0,4;");
        Due.due("where", ice.split(3, 0), 2);
        Due.due("as large", ice.split(3, 1), 2);
        Due.due("nothing is sawn", ice.count(4), 10);
        Due.due("nothing to undo", ice.count(8), 0);
        dueBad("split(0, 2)", river -> river.split(0, 2));
        dueBad("split(4, 0)", river -> river.split(4, 0));
        for (int far : FAR) {
            dueBad("split(" + far + ", 0)", river -> river.split(far, 0));
            // BAD ahead of NONE: 3 has no cell.
            dueBad("split(3, " + far + ")", river -> river.split(3, far));
        }
        dueNone("split of none", river -> river.split(3, 0));
        dueNone("split of none", river -> river.split(3, 1));
    }
}
