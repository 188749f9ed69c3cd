/** Promises 2 to 5: write, wipe, fault, lay. */
public final class TextTest {
    public static void main(String[] args) {
        writes();
        wipes();
        faults();
        lays();
        lastOnesCount();
        laysAnew();
        laysNothing();
        Due.end();
    }

    private static void writes() {
        IceInherited ice = new IceInherited();
        Due.due("write(31)", ice.write(31), Due.BAD);
        Due.due("write(127)", ice.write(127), Due.BAD);
        Due.due("write(-1)", ice.write(-1), Due.BAD);
        Due.due("write(65536 + 'r')", ice.write(65536 + 'r'), Due.BAD);
        Due.due("count(10)", ice.count(10), 0);
        Due.due("write(32)", ice.write(32), 1);
        Due.due("write(126)", ice.write(126), 2);
        for (int length = 3; length <= 200; length++) {
            Due.due("write 'a'", ice.write('a'), length);
        }
        Due.due("write the 201st", ice.write('a'), Due.FULL);
        Due.due("write a bad one when full", ice.write(127), Due.BAD);
        Due.due("count(10) when full", ice.count(10), 200);
        Due.due("fault when full", ice.fault(), 0);
    }

    private static void wipes() {
        IceInherited ice = Due.written("k9,9;");
        Due.due("fault ahead of wipe", ice.fault(), 0);
        Due.due("wipe", ice.wipe(), 5);
        Due.due("wipe again", ice.wipe(), 0);
        Due.due("fault behind wipe", ice.fault(), Due.NONE);
        Due.due("lay behind wipe", ice.lay(), Due.NO);
        Due.due("write behind wipe", ice.write('i'), 1);
        Due.writeAll(ice, "7;");
        Due.due("lay", ice.lay(), 20);
        Due.due("cell(0, 1)", ice.cell(0, 1), 7);
    }

    private static void dueFault(String text, int want) {
        IceInherited ice = Due.written(text);
        Due.due("fault of " + text, ice.fault(), want);
        if (want != Due.NONE) {
            Due.due("lay of " + text, ice.lay(), Due.NO);
        }
    }

    private static void faults() {
        sizeFaults();
        numberFaults();
        rangeFaults();
        dueFault("r4,5;k2,2;k7,2;k8,1;k13,1;k15,3;f0,0,6;f1,3,9;f2,10,19;"
                + "i4;d23;d25;d18;d14;d24;l1;", Due.NONE);
        dueFault("x1;", 0);
        dueFault("I4;", 0);
        dueFault(";", 0);
        dueFault(" i4;", 0);
        dueFault("i4; d1;", 3);
        dueFault("i4;;", 3);
        dueFault("i4;d1;i", 6);
        dueFault("i4;d1;i9,", 6);
        dueFault("i4;q;i99;", 3);
    }

    private static void sizeFaults() {
        dueFault("r4,5;", Due.NONE);
        dueFault("r2,2;", Due.NONE);
        dueFault("r7,7;", Due.NONE);
        dueFault("r1,5;", 0);
        dueFault("r5,1;", 0);
        dueFault("r8,5;", 0);
        dueFault("r2,8;", 0);
        dueFault("r2,3;r8,2;", 5);
        dueFault("r2,3;r3,2;r7,7;", Due.NONE);
        dueFault("k0,1;r2,2;", 5);
        dueFault("i3;r2,2;", 3);
        dueFault("d3;r2,2;", 3);
        dueFault("l1;r2,2;", 3);
        dueFault("r2,2;f0,0,0;r2,2;", 12);
    }

    private static void numberFaults() {
        dueFault("r4,5", 0);
        dueFault("r4,", 0);
        dueFault("r", 0);
        dueFault("r4,5;k2,2", 5);
        dueFault("r02,07;", Due.NONE);
        dueFault("r002,7;", 0);
        dueFault("r2,007;", 0);
        dueFault("r,7;", 0);
        dueFault("r2;", 0);
        dueFault("r2,3,4;", 0);
        dueFault("r2;3;", 0);
        dueFault("k2;", 0);
        dueFault("f0,1;", 0);
        dueFault("f0,1,2,3;", 0);
        dueFault("i4,4;", 0);
        dueFault("i;", 0);
        dueFault("i-1;", 0);
        dueFault("i 1;", 0);
        dueFault("i100;", 0);
        dueFault("i004;", 0);
        dueFault("i04;d00;l00;k00,00;f00,00,00;", Due.NONE);
        dueFault("d1/;", 0);
        dueFault("d1:;", 0);
    }

    private static void rangeFaults() {
        dueFault("k19,3;", Due.NONE);
        dueFault("k20,0;", 0);
        dueFault("k19,4;", 0);
        dueFault("r2,2;k3,1;k4,1;", 10);
        dueFault("r7,7;k48,1;k49,1;", 11);
        dueFault("r7,7;r2,2;k4,1;", 10);
        dueFault("f3,0,19;", Due.NONE);
        dueFault("f4,0,19;", 0);
        dueFault("f0,20,0;", 0);
        dueFault("f0,0,20;", 0);
        dueFault("i40;", Due.NONE);
        dueFault("i41;", 0);
        dueFault("d40;", Due.NONE);
        dueFault("d41;", 0);
        dueFault("l2;", Due.NONE);
        dueFault("l3;", 0);
        dueFault("d1;d1;d1;d1;d1;d1;d1;d1;d1;d1;", Due.NONE);
        dueFault("d1;d1;d1;d1;d1;d1;d1;d1;d1;d1;d1;", 30);
        dueFault("d1;d1;d1;d1;d1;i4;d1;d1;d1;d1;d1;l1;d20;", 36);
    }

    private static void lays() {
        Due.due("lay r2,2", Due.written("r2,2;").lay(), 4);
        Due.due("lay r7,7", Due.written("r7,7;").lay(), 49);
        Due.due("lay r2,7", Due.written("r2,7;").lay(), 14);
        IceInherited ice = Due.laid("l0;");
        int[] counts = {20, 4, 0, 0, 20, 0, 60, 0, 0, 0, 3};
        for (int what = 0; what < counts.length; what++) {
            Due.due("l0; count(" + what + ")", ice.count(what), counts[what]);
        }
        for (int x = 0; x < 20; x++) {
            Due.due("l0; kind", ice.cell(x, 0), 0);
            Due.due("l0; map", ice.cell(x, 3), Due.NONE);
        }
        Due.due("l0; cold(0)", ice.cold(0), 20);
        Due.due("l0; cold(199)", ice.cold(199), 20);
        Due.due("law without l", Due.laid("i4;").count(2), 0);
        // The columns of X and Y may stand in either order.
        int n = Due.NONE;
        Due.dueCells("f0,2,4;", Due.laid("r3,4;f0,2,4;"), 3, 0, 0, 0, n, 0, 0, 0, n, n, n, n, n);
        Due.dueCells("f0,9,2;", Due.laid("r3,4;f0,9,2;"), 3, n, 0, 0, n, n, 0, 0, n, n, 0, 0, n);
        Due.dueCells("f3,5,5;", Due.laid("r3,4;f3,5,5;"), 3, n, n, n, n, n, 3, n, n, n, n, n, n);
    }

    private static void lastOnesCount() {
        int n = Due.NONE;
        IceInherited ice = Due.laid("r7,7;r3,2;k0,1;k1,2;k0,3;f0,0,5;f1,2,3;f2,3,3;i9;i2;l1;l2;");
        Due.due("cells", ice.count(0), 6);
        Due.due("rows", ice.count(1), 3);
        Due.due("law", ice.count(2), 2);
        Due.dueCells("last kinds", ice, 0, 3, 2, 0, 0, 0, 0);
        Due.dueCells("last inches", ice, 1, 2, 2, 2, 2, 2, 2);
        Due.dueCells("last owners", ice, 2, 0, n, 1, 2, 0, 0);
        Due.dueCells("last map", ice, 3, 0, 0, 1, 2, 0, 0);
    }

    private static void laysAnew() {
        IceInherited ice = Due.laid("r2,2;i9;f0,0,3;k0,3;d40;l2;");
        ice.pass(2);
        ice.saw(0);
        ice.keep();
        ice.drill(0, 1);
        Due.due("lay again", ice.lay(), 4);
        int[] counts = {4, 2, 2, 0, 4, 4, 36, 0, 0, 0, 27};
        for (int what = 0; what < counts.length; what++) {
            Due.due("anew count(" + what + ")", ice.count(what), counts[what]);
        }
        Due.due("anew undo", ice.undo(), Due.NO);
        Due.due("anew back", ice.back(), Due.NO);
        Due.due("anew forget", ice.forget(), 0);
        // What the text before told is told no more.
        ice.wipe();
        Due.writeAll(ice, "r2,3;");
        Due.due("lay another", ice.lay(), 6);
        Due.due("law without", ice.count(2), 0);
        Due.due("cold without", ice.cold(0), 20);
        Due.dueCells("another", ice, 0, 0, 0, 0, 0, 0, 0);
        Due.dueCells("another", ice, 1, 3, 3, 3, 3, 3, 3);
        Due.dueCells("another", ice, 3, -4, -4, -4, -4, -4, -4);
    }

    private static void laysNothing() {
        IceInherited ice = Due.laid("r2,2;i9;f0,0,3;d30;");
        ice.pass(1);
        ice.keep();
        ice.drill(0, 1);
        ice.wipe();
        Due.due("lay of nothing", ice.lay(), Due.NO);
        Due.writeAll(ice, "r3,3;k1,1;d1;i5;l1;f1,0,0;f1,0,9;");
        Due.due("fault", ice.fault(), 26);
        Due.due("lay of a fault", ice.lay(), Due.NO);
        int[] counts = {4, 2, 0, 1, 4, 4, 76, 1, 1, 1, 33};
        for (int what = 0; what < counts.length; what++) {
            Due.due("not laid count(" + what + ")", ice.count(what), counts[what]);
        }
        Due.dueCells("not laid", ice, 0, 0, 0, 0, 0);
        Due.dueCells("not laid", ice, 3, 0, 0, 0, 0);
        Due.due("not laid cold(0)", ice.cold(0), 30);
    }
}
