/** Promises 6 to 8: cell, family, cold. */
public final class CellsTest {
    public static void main(String[] args) {
        kindsAndOwners();
        bears();
        floes();
        families();
        colds();
        wrongNumbers();
        Due.end();
    }

    private static void kindsAndOwners() {
        int n = Due.NONE;
        IceInherited ice = Due.laid("r2,3;k0,0;k1,1;k2,2;k3,3;f3,0,2;f0,3,4;i12;");
        Due.dueCells("kinds", ice, 0, 0, 1, 2, 3, 0, 0);
        Due.dueCells("a channel begins with 9", ice, 1, 12, 12, 9, 12, 12, 12);
        Due.dueCells("a channel is nobody's", ice, 2, 3, 3, n, 0, 0, n);
        Due.dueCells("the map has channels, too", ice, 3, 3, 3, 3, 0, 0, n);
        IceInherited open = Due.laid("r2,2;f1,0,3;i0;");
        Due.dueCells("without ice", open, 1, 0, 0, 0, 0);
        Due.dueCells("without ice nobody's", open, 2, n, n, n, n);
        Due.dueCells("without ice on the map", open, 3, 1, 1, 1, 1);
        Due.dueCells("without ice no floe", open, 5, 0, 0, 0, 0);
        IceInherited thin = Due.laid("r2,2;k0,2;i8;");
        Due.due("a channel of 8", thin.cell(0, 1), 8);
    }

    private static void bears() {
        // Of 3 rows of 3 a corner has two beside it, an edge three, the middle four.
        Due.dueCells("i16", Due.laid("r3,3;i16;"), 4, 20, 22, 20, 22, 24, 22, 20, 22, 20);
        Due.dueCells("i3", Due.laid("r3,3;i3;"), 4, 3, 4, 3, 4, 4, 4, 3, 4, 3);
        // 7 + 14 / 8 is 8, of it half is 4; 5 + 10 / 8 is 6, half is 3; 3 + 6 / 8 is 3, half is 1.
        Due.dueCells("reeds i7", Due.laid("r2,2;k0,3;i7;"), 4, 4, 8, 8, 8);
        Due.dueCells("reeds i5", Due.laid("r2,2;k0,3;i5;"), 4, 3, 6, 6, 6);
        Due.dueCells("reeds i3", Due.laid("r2,2;k0,3;i3;"), 4, 1, 3, 3, 3);
        Due.dueCells("no ice", Due.laid("r2,2;i0;"), 4, 0, 0, 0, 0);
        IceInherited ice = Due.laid("r2,2;k3,2;i40;");
        Due.dueCells("a channel beside", ice, 4, 50, 46, 46, 19);
        ice.saw(0);
        Due.dueCells("sawn", ice, 4, 0, 41, 41, 19);
        // 30 + 39 / 8, and 9 + 60 / 8.
        Due.dueCells("an eighth, cut", Due.laid("r2,2;k3,2;i30;"), 4, 37, 34, 34, 16);
    }

    private static void floes() {
        // 0 0 . 1
        // 1 0 0 1
        // 1 1 . 0   ('.' a channel)
        IceInherited ice = Due.laid("r3,4;k2,2;k10,2;f0,0,11;f1,3,7;f1,4,8;f1,9,9;");
        Due.dueCells("floes", ice, 5, 4, 4, 0, 2, 3, 4, 4, 2, 3, 3, 0, 1);
        ice.sell(5, 1);
        Due.dueCells("sold", ice, 5, 2, 2, 0, 2, 4, 4, 1, 2, 4, 4, 0, 1);
    }

    private static void families() {
        IceInherited ice = Due.laid("r3,4;k2,2;k10,2;f0,0,11;f1,3,7;f1,4,8;f1,9,9;");
        int[][] wants = {{5, 2, 4}, {5, 2, 3}, {0, 0, 0}, {0, 0, 0}};
        for (int f = 0; f < 4; f++) {
            for (int what = 0; what < 3; what++) {
                Due.due("family(" + f + ", " + what + ")", ice.family(f, what), wants[f][what]);
            }
        }
        IceInherited corner = Due.laid("r2,2;f2,0,0;f3,3,3;");
        Due.due("the first cell alone", corner.family(2, 1), 1);
        Due.due("the first cell alone", corner.family(2, 2), 1);
        Due.due("the last cell alone", corner.family(3, 1), 1);
        ice.sell(9, 3);
        Due.due("sold to 3", ice.family(3, 0), 1);
        Due.due("sold to 3", ice.family(3, 1), 1);
        Due.due("sold to 3", ice.family(3, 2), 1);
        Due.due("sold by 1", ice.family(1, 2), 2);
    }

    private static void colds() {
        IceInherited ice = Due.laid("d0;d40;d20;d1;d2;d3;d4;d5;d6;d7;");
        int[] told = {0, 40, 20, 1, 2, 3, 4, 5, 6, 7};
        for (int t = 0; t < 200; t++) {
            Due.due("cold(" + t + ")", ice.cold(t), told[t % 10]);
        }
        ice.pass(3);
        Due.due("cold(0) of day 0 still", ice.cold(0), 0);
        IceInherited one = Due.laid("d33;");
        Due.due("one cold(0)", one.cold(0), 33);
        Due.due("one cold(199)", one.cold(199), 33);
    }

    private static void wrongNumbers() {
        IceInherited ice = Due.laid("r2,3;");
        for (int what = 0; what < 6; what++) {
            Due.due("cell(6, " + what + ")", ice.cell(6, what), Due.BAD);
            Due.due("cell(-1, " + what + ")", ice.cell(-1, what), Due.BAD);
        }
        Due.due("cell(0, 6)", ice.cell(0, 6), Due.BAD);
        Due.due("cell(0, -1)", ice.cell(0, -1), Due.BAD);
        for (int what = 0; what < 3; what++) {
            Due.due("family(4, " + what + ")", ice.family(4, what), Due.BAD);
            Due.due("family(-1, " + what + ")", ice.family(-1, what), Due.BAD);
            Due.due("family(-4, " + what + ")", ice.family(-4, what), Due.BAD);
        }
        Due.due("family(0, 3)", ice.family(0, 3), Due.BAD);
        Due.due("family(0, -1)", ice.family(0, -1), Due.BAD);
        Due.due("cold(200)", ice.cold(200), Due.BAD);
        Due.due("cold(-1)", ice.cold(-1), Due.BAD);
    }
}
