/** Promises 20 to 28: drill, forget, colds, across, shares, winter, keep, back, count. */
public final class PastTest {
    private static final int N = Due.NONE;

    public static void main(String[] args) {
        drills();
        forgets();
        colds();
        coldsByKind();
        coldsStay();
        across();
        shares();
        winters();
        winterDraws();
        keeps();
        backs();
        counts();
        Due.end();
    }

    private static void drills() {
        IceInherited ice = new IceInherited();
        Due.due("drill(-1, 0)", ice.drill(-1, 0), Due.BAD);
        Due.due("drill(20, 0)", ice.drill(20, 0), Due.BAD);
        Due.due("drill(0, -1)", ice.drill(0, -1), Due.BAD);
        Due.due("drill(0, 61)", ice.drill(0, 61), Due.BAD);
        Due.due("none drilled", ice.count(7), 0);
        Due.due("drill(0, 60)", ice.drill(0, 60), 1);
        Due.due("the same again", ice.drill(0, 60), 2);
        Due.due("drill(19, 0)", ice.drill(19, 0), 3);
        ice.drill(1, 1);
        ice.drill(1, 2);
        Due.due("the sixth", ice.drill(1, 3), 6);
        Due.due("the seventh", ice.drill(1, 4), Due.FULL);
        Due.due("a bad one when full", ice.drill(20, 4), Due.BAD);
        Due.due("six drilled", ice.count(7), 6);
    }

    private static void forgets() {
        IceInherited ice = new IceInherited();
        ice.drill(0, 60);
        Due.due("no such cold", ice.colds(0), 0);
        ice.drill(0, 60);
        Due.due("forget", ice.forget(), 2);
        Due.due("forget again", ice.forget(), 0);
        Due.due("any cold", ice.colds(0), 41);
        Due.due("drill behind it", ice.drill(0, 7), 1);
        Due.due("the first is forgotten", ice.colds(1), 23);
    }

    private static void colds() {
        IceInherited ice = new IceInherited();
        Due.due("colds(2)", ice.colds(2), Due.BAD);
        Due.due("colds(-1)", ice.colds(-1), Due.BAD);
        Due.due("nothing drilled", ice.colds(0), 41);
        Due.due("nothing drilled", ice.colds(1), 0);
        // 4 inches thaw in all with 4 or more of warmth: C 0 to 16.
        ice.drill(0, 0);
        Due.due("thawn", ice.colds(0), 17);
        Due.due("thawn", ice.colds(1), 0);
        ice.forget();
        ice.drill(0, 24);
        Due.due("the coldest", ice.colds(0), 1);
        Due.due("the coldest", ice.colds(1), 40);
        ice.forget();
        ice.drill(0, 25);
        Due.due("beyond it", ice.colds(0), 0);
        Due.due("beyond it", ice.colds(1), N);
        ice.forget();
        ice.drill(0, 5);
        ice.drill(1, 6);
        Due.due("not both", ice.colds(0), 0);
        Due.due("not both", ice.colds(1), N);
    }

    private static void coldsByKind() {
        // A channel (2) of 4 inches: 9 from 5 by half on, so C 30 to 40.
        IceInherited ice = new IceInherited();
        ice.drill(2, 9);
        Due.due("a full channel", ice.colds(0), 11);
        Due.due("a full channel", ice.colds(1), 30);
        ice.forget();
        ice.drill(2, 5);
        Due.due("half of it, cut", ice.colds(0), 2);
        Due.due("half of it, cut", ice.colds(1), 22);
        ice.forget();
        ice.drill(2, 2);
        Due.due("2 times that", ice.colds(0), 1);
        Due.due("2 times that", ice.colds(1), 19);
        ice.forget();
        // A flowing one (8): cold 0 and 1 do nothing.
        ice.drill(8, 4);
        Due.due("flowing", ice.colds(0), 2);
        Due.due("flowing", ice.colds(1), 20);
        ice.forget();
        ice.drill(8, 2);
        Due.due("flowing, 1 more", ice.colds(0), 1);
        Due.due("flowing, 1 more", ice.colds(1), 19);
        ice.drill(0, 3);
        ice.drill(15, 3);
        ice.drill(2, 2);
        Due.due("all kinds", ice.colds(0), 1);
        ice.drill(15, 4);
        Due.due("reeds as calm ones", ice.colds(0), 0);
        // Full ice stays full.
        IceInherited full = Due.laid("r2,2;i40;d40;");
        full.pass(1);
        full.drill(0, 60);
        Due.due("60 stay 60", full.colds(0), 21);
        Due.due("60 stay 60", full.colds(1), 20);
    }

    private static void coldsStay() {
        // What is drilled stays while days go by, and is asked of the next day.
        IceInherited ice = new IceInherited();
        ice.drill(0, 9);
        Due.due("from 4", ice.colds(1), 25);
        ice.pass(1);
        Due.due("drilled still", ice.count(7), 1);
        Due.due("from 7", ice.colds(1), 22);
        ice.saw(0);
        Due.due("from 0", ice.colds(1), 29);
        ice.undo();
        Due.due("from 7 again", ice.colds(1), 22);
    }

    private static void across() {
        Due.due("all ice", Due.laid("r3,4;").across(), 0);
        Due.due("no ice", Due.laid("r3,4;i0;").across(), 3);
        Due.due("no ice, 7 rows", Due.laid("r7,2;i0;").across(), 7);
        IceInherited ice = Due.laid("r3,3;");
        ice.saw(3);
        ice.saw(4);
        Due.due("round", ice.across(), 0);
        ice.saw(5);
        Due.due("a row of water", ice.across(), 1);
        ice.saw(0);
        ice.saw(1);
        Due.due("by the one above", ice.across(), 1);
        ice.saw(2);
        Due.due("its ends, too", ice.across(), 2);
        ice.saw(6);
        ice.saw(7);
        Due.due("down the last one", ice.across(), 2);
        ice.saw(8);
        Due.due("nothing left", ice.across(), 3);
        Due.due("first column alone", openBut("r3,3;", 0, 3, 6).across(), 0);
        Due.due("last column alone", openBut("r3,3;", 2, 5, 8).across(), 0);
        Due.due("from the left to the right", openBut("r3,3;", 0, 3, 4, 5, 8).across(), 0);
        // The way goes up again ahead of its end.
        Due.due("bent", openBut("r4,5;", 0, 5, 10, 11, 12, 7, 8, 9, 14, 19).across(), 0);
        Due.due("not beside at a corner", openBut("r3,3;", 0, 4, 8).across(), 2);
        Due.due("not beside round a row's end", openBut("r2,3;", 2, 3).across(), 1);
    }

    private static IceInherited openBut(String text, int... withIce) {
        IceInherited ice = Due.laid(text);
        int cells = ice.count(0);
        for (int x = 0; x < cells; x++) {
            boolean sawn = true;
            for (int y : withIce) {
                sawn &= x != y;
            }
            if (sawn) {
                ice.saw(x);
            }
        }
        return ice;
    }

    private static void shares() {
        // The map: 0 0 1 / 0 2 2; then 0 sells to 1 what hangs together with 1's.
        IceInherited ice = Due.laid("r2,3;f0,0,4;f1,2,2;f2,4,5;");
        Due.due("whole", ice.shares(0, 0, 0), 1);
        Due.due("whole", ice.shares(0, 0, 1), 1);
        Due.due("no part", ice.shares(0, 1, 0), 0);
        Due.due("no part", ice.shares(0, 1, 1), 1);
        ice.sell(1, 1);
        ice.sell(0, 1);
        ice.sell(4, 1);
        Due.due("0's of 4", ice.shares(2, 0, 0), 1);
        Due.due("0's of 4", ice.shares(2, 0, 1), 2);
        Due.due("1's of 4", ice.shares(0, 1, 0), 1);
        Due.due("1's of 4", ice.shares(0, 1, 1), 4);
        Due.due("2's of 4", ice.shares(4, 2, 0), 1);
        Due.due("2's of 4", ice.shares(4, 2, 1), 4);
        Due.due("3's of 4", ice.shares(4, 3, 0), 0);
        Due.due("3's of 4", ice.shares(4, 3, 1), 1);
        Due.due("another floe", ice.shares(5, 2, 0), 1);
        Due.due("another floe", ice.shares(5, 2, 1), 1);
        ice.saw(1);
        Due.due("one cell alone", ice.shares(0, 0, 1), 1);
        Due.due("nobody's", ice.shares(1, 0, 0), N);
        Due.due("nobody's", ice.shares(1, 3, 1), N);
        int[][] wrongs = {{-1, 0, 0}, {6, 0, 0}, {0, -1, 0}, {0, 4, 0}, {0, 0, -1}, {0, 0, 2},
            {1, 4, 0}, {1, 0, 2}, {0, -4, 0}};
        for (int[] w : wrongs) {
            Due.due("shares", ice.shares(w[0], w[1], w[2]), Due.BAD);
        }
        IceInherited thirds = Due.laid("r2,3;f0,0,5;f1,1,4;");
        thirds.sell(1, 0);
        thirds.sell(4, 0);
        Due.due("4 of 6", thirds.shares(0, 0, 0), 2);
        Due.due("4 of 6", thirds.shares(0, 0, 1), 3);
        Due.due("2 of 6", thirds.shares(0, 1, 0), 1);
        Due.due("2 of 6", thirds.shares(0, 1, 1), 3);
    }

    private static void winters() {
        IceInherited ice = Due.laid("r2,2;f0,0,3;");
        int[][] wrongs = {{-1, 1, 0}, {10000, 1, 0}, {0, 0, 0}, {0, 61, 0}, {0, 1, -2},
            {0, 1, 4}, {0, 1, -4}};
        for (int[] w : wrongs) {
            Due.due("winter", ice.winter(w[0], w[1], w[2]), Due.BAD);
        }
        // z 0: x is 1, 6152, 12303, 18454: draws 0, 5185, 1287, 4684, colds -8, 11, -2, -7.
        Due.due("a day of -8", ice.winter(0, 1, -1), 0);
        Due.due("a day of -8", ice.winter(0, 1, 0), 1);
        Due.due("then one of 11", ice.winter(0, 2, -1), 4);
        Due.due("one day without", ice.winter(0, 2, 0), 1);
        Due.due("a family without", ice.winter(0, 4, 3), 4);
        Due.due("the days stay", ice.count(3), 0);
        Due.due("the ice stays", ice.count(6), 12);
    }

    private static void winterDraws() {
        for (int z : new int[] {0, 1, 17, 4096, 9998, 9999}) {
            IceInherited ice = Due.laid("r2,2;k1,1;k2,2;k3,3;f0,0,0;f1,1,1;f3,3,3;i10;l2;d40;");
            int[] inches = {10, 10, 9, 10};
            boolean[] lost = new boolean[4];
            int[] without = {0, 0, 0, 0};
            for (int n = 1; n <= 60; n++) {
                int cold = drawnCold(z, n - 1);
                int with = 0;
                for (int x = 0; x < 4; x++) {
                    inches[x] = grown(x, inches[x], cold);
                    with += inches[x] > 0 ? 1 : 0;
                    lost[x] |= inches[x] == 0;
                    without[x] += lost[x] ? 1 : 0;
                }
                Due.due("winter(" + z + ", " + n + ", -1)", ice.winter(z, n, -1), with);
                Due.due("winter of 0", ice.winter(z, n, 0), without[0]);
                Due.due("winter of 1", ice.winter(z, n, 1), without[1]);
                Due.due("winter of 2", ice.winter(z, n, 2), n);
                Due.due("winter of 3", ice.winter(z, n, 3), without[3]);
            }
        }
    }

    private static int drawnCold(int z, int k) {
        java.math.BigInteger x = java.math.BigInteger.valueOf(7919).multiply(
                java.math.BigInteger.valueOf(z)).add(java.math.BigInteger.valueOf(6151L * k + 1));
        java.math.BigInteger draw = x.multiply(x).mod(java.math.BigInteger.valueOf(65521));
        return draw.intValueExact() / 8 % 21 - 8;
    }

    private static int grown(int kind, int inches, int cold) {
        int[] frost = {cold, cold == 0 ? 0 : cold - 1, cold / 2, cold};
        int[] warm = {cold, cold - 1, 2 * cold, cold};
        int behind = inches + (cold < 0 ? warm[kind] : frost[kind]);
        return behind < 0 ? 0 : Math.min(behind, kind == 2 ? 9 : 60);
    }

    private static void keeps() {
        IceInherited ice = new IceInherited();
        Due.due("keep", ice.keep(), 1);
        Due.due("keep", ice.keep(), 2);
        Due.due("keep a third", ice.keep(), Due.FULL);
        Due.due("kept", ice.count(9), 2);
        Due.due("back", ice.back(), 1);
        Due.due("keep again", ice.keep(), 2);
        Due.due("back", ice.back(), 1);
        Due.due("back", ice.back(), 0);
        Due.due("back of nothing", ice.back(), Due.NO);
    }

    private static void backs() {
        IceInherited ice = Due.laid("r2,2;f0,0,3;i5;d22;");
        ice.saw(3);
        ice.keep();
        ice.pass(3);
        ice.sell(0, 2);
        ice.drill(0, 1);
        ice.keep();
        ice.saw(0);
        Due.due("can be undone", ice.count(8), 4);
        Due.due("back", ice.back(), 1);
        Due.due("nothing undone", ice.count(8), 0);
        Due.due("undo", ice.undo(), Due.NO);
        Due.due("days", ice.count(3), 3);
        Due.dueCells("inches", ice, 1, 11, 11, 11, 6);
        Due.dueCells("owners", ice, 2, 2, 0, 0, 0);
        Due.due("drilled", ice.count(7), 1);
        ice.saw(0);
        Due.due("back", ice.back(), 0);
        Due.due("days", ice.count(3), 0);
        Due.dueCells("inches", ice, 1, 5, 5, 5, 0);
        Due.dueCells("owners", ice, 2, 0, 0, 0, N);
        Due.due("undo", ice.undo(), Due.NO);
        ice.saw(0);
        Due.due("back of nothing", ice.back(), Due.NO);
        Due.due("still undone", ice.count(8), 1);
    }

    private static void counts() {
        IceInherited ice = Due.laid("r3,2;f0,0,1;f3,2,2;i5;d22;l2;k5,2;");
        ice.pass(2);
        ice.saw(0);
        ice.drill(0, 1);
        ice.keep();
        int[] wants = {6, 3, 2, 2, 5, 2, 43, 1, 2, 1, 34};
        for (int what = 0; what < wants.length; what++) {
            Due.due("count(" + what + ")", ice.count(what), wants[what]);
        }
        Due.due("count(-1)", ice.count(-1), Due.BAD);
        Due.due("count(11)", ice.count(11), Due.BAD);
    }
}
