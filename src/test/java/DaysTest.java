/** Promises 9 to 12: pass, saw, sell, undo. */
public final class DaysTest {
    private static final int N = Due.NONE;

    public static void main(String[] args) {
        passes();
        kinds();
        limits();
        lawOfTheMap();
        lawBeside();
        lawOfNobody();
        channelsStayNobodys();
        saws();
        sells();
        undoes();
        undoesWhatWasDone();
        undoesTheLastEight();
        Due.end();
    }

    private static void passes() {
        IceInherited ice = Due.laid("r2,2;d21;d22;");
        Due.due("pass(0)", ice.pass(0), Due.BAD);
        Due.due("pass(31)", ice.pass(31), Due.BAD);
        Due.due("pass(-1)", ice.pass(-1), Due.BAD);
        Due.due("no day gone", ice.count(3), 0);
        Due.due("nothing to undo", ice.count(8), 0);
        Due.due("pass(1)", ice.pass(1), 1);
        Due.due("3 + 1", ice.cell(0, 1), 4);
        Due.due("pass(1)", ice.pass(1), 2);
        Due.due("4 + 2", ice.cell(0, 1), 6);
        Due.due("pass(3)", ice.pass(3), 5);
        Due.due("6 + 1 + 2 + 1", ice.cell(0, 1), 10);
        Due.due("pass(30)", ice.pass(30), 35);
        Due.due("10 + 30 + 15", ice.cell(0, 1), 55);
        Due.due("days", ice.count(3), 35);
        IceInherited still = Due.laid("r2,2;");
        still.pass(30);
        Due.due("no cold told", still.cell(0, 1), 3);
    }

    private static void kinds() {
        IceInherited ice = Due.laid("r2,2;k1,1;k2,2;k3,3;i5;f0,0,3;d23;d21;d20;d19;d0;");
        Due.dueCells("at first", ice, 1, 5, 5, 5, 5);
        ice.pass(1);
        Due.dueCells("cold 3", ice, 1, 8, 7, 6, 8);
        ice.pass(1);
        Due.dueCells("cold 1", ice, 1, 9, 7, 6, 9);
        ice.pass(1);
        Due.dueCells("cold 0", ice, 1, 9, 7, 6, 9);
        ice.pass(1);
        Due.dueCells("cold -1", ice, 1, 8, 5, 4, 8);
        Due.dueCells("owners", ice, 2, 0, 0, N, 0);
        ice.pass(1);
        Due.dueCells("cold -20", ice, 1, 0, 0, 0, 0);
        Due.dueCells("owners", ice, 2, N, N, N, N);
        Due.due("with ice", ice.count(4), 0);
    }

    private static void limits() {
        IceInherited ice = Due.laid("r2,2;k1,1;k2,2;k3,3;i40;d40;d39;");
        ice.pass(1);
        Due.dueCells("cold 20", ice, 1, 60, 59, 9, 60);
        ice.pass(1);
        Due.dueCells("cold 19", ice, 1, 60, 60, 9, 60);
        IceInherited thaw = Due.laid("r2,2;k1,1;k2,2;k3,3;i5;d16;");
        thaw.pass(1);
        Due.dueCells("cold -4", thaw, 1, 1, 0, 0, 1);
        thaw.pass(1);
        Due.dueCells("cold -4", thaw, 1, 0, 0, 0, 0);
    }

    private static void lawOfTheMap() {
        IceInherited ice = Due.laid("r2,3;f0,0,1;f1,3,4;d25;");
        ice.saw(0);
        ice.sell(1, 3);
        ice.saw(5);
        ice.saw(4);
        ice.sell(3, 2);
        ice.pass(1);
        Due.dueCells("anew", ice, 1, 5, 8, 8, 8, 5, 5);
        Due.dueCells("of the map", ice, 2, 0, 3, N, 2, 1, N);
        IceInherited sold = Due.laid("r2,2;f0,0,3;d0;d40;");
        sold.sell(0, 1);
        sold.pass(1);
        Due.dueCells("gone", sold, 2, N, N, N, N);
        sold.pass(1);
        Due.dueCells("as on the map", sold, 2, 0, 0, 0, 0);
    }

    private static void lawBeside() {
        // 0 0 1      the middle one has 0 above, 1 left, 2 right, 1 below: 1 has most.
        // 1 . 2
        // 3 1 3
        IceInherited ice = Due.laid("r3,3;f0,0,1;f1,2,2;f1,3,3;f2,5,5;f3,6,8;f1,7,7;d25;l1;");
        ice.saw(4);
        ice.pass(1);
        Due.due("most beside", ice.cell(4, 2), 1);
        Due.due("fresh ice", ice.cell(4, 1), 5);
        // As many of 2 as of 1: the lowest.
        IceInherited even = Due.laid("r3,3;f2,0,1;f1,2,2;f1,3,3;f2,5,5;f3,6,8;f1,7,7;d25;l1;");
        even.saw(4);
        even.pass(1);
        Due.due("of several the lowest", even.cell(4, 2), 1);
        // Up, down, left and right each count alone.
        for (int y : new int[] {1, 7, 3, 5}) {
            IceInherited one = Due.laid("r3,3;f2," + y + "," + y + ";d25;l1;");
            one.saw(4);
            one.pass(1);
            Due.due("beside at " + y, one.cell(4, 2), 2);
        }
        for (int y : new int[] {0, 2, 6, 8}) {
            IceInherited one = Due.laid("r3,3;f2," + y + "," + y + ";d25;l1;");
            one.saw(4);
            one.pass(1);
            Due.due("not beside at " + y, one.cell(4, 2), N);
        }
        // A cell beside that is open has nobody's voice, even if it freezes the same day.
        IceInherited row = Due.laid("r2,4;f0,0,4;f1,3,7;f3,1,1;k5,2;k6,2;d21;l1;");
        row.saw(1);
        row.saw(2);
        row.pass(1);
        Due.due("0 at its left", row.cell(1, 2), 0);
        Due.due("1 at its right", row.cell(2, 2), 1);
        IceInherited none = Due.laid("r2,2;f0,0,0;d21;l1;");
        none.saw(0);
        none.pass(1);
        Due.dueCells("none had one", none, 2, N, N, N, N);
        none.pass(1);
        Due.dueCells("it stays so", none, 2, N, N, N, N);
    }

    private static void lawOfNobody() {
        IceInherited ice = Due.laid("r2,2;f0,0,3;d25;l2;");
        ice.saw(0);
        ice.pass(1);
        Due.dueCells("nobody's", ice, 2, N, 0, 0, 0);
        ice.pass(5);
        Due.dueCells("nobody's still", ice, 2, N, 0, 0, 0);
    }

    private static void channelsStayNobodys() {
        for (int law = 0; law < 3; law++) {
            IceInherited ice = Due.laid("r2,2;f0,0,3;k0,2;d25;l" + law + ";");
            Due.due("a channel is sawn", ice.saw(0), 3);
            ice.pass(1);
            Due.due("a channel anew", ice.cell(0, 1), 2);
            Due.due("nobody's by law " + law, ice.cell(0, 2), N);
        }
    }

    private static void saws() {
        IceInherited ice = Due.laid("r2,2;f0,0,1;i7;");
        Due.due("saw(4)", ice.saw(4), Due.BAD);
        Due.due("saw(-1)", ice.saw(-1), Due.BAD);
        Due.due("saw(0)", ice.saw(0), 7);
        Due.dueCells("sawn", ice, 1, 0, 7, 7, 7);
        Due.dueCells("sawn", ice, 2, N, 0, N, N);
        Due.due("saw(0) again", ice.saw(0), Due.NO);
        Due.due("saw of nobody's", ice.saw(3), 7);
        Due.due("undone", ice.count(8), 2);
    }

    private static void sells() {
        IceInherited ice = Due.laid("r2,2;f0,0,1;f3,2,2;");
        Due.due("sell(4, 0)", ice.sell(4, 0), Due.BAD);
        Due.due("sell(-1, 0)", ice.sell(-1, 0), Due.BAD);
        Due.due("sell(0, 4)", ice.sell(0, 4), Due.BAD);
        Due.due("sell(0, -1)", ice.sell(0, -1), Due.BAD);
        Due.due("sell(0, NONE)", ice.sell(0, N), Due.BAD);
        Due.due("sell(3, 4)", ice.sell(3, 4), Due.BAD);
        Due.due("sell its own", ice.sell(0, 0), Due.NO);
        Due.due("sell nobody's", ice.sell(3, 0), Due.NO);
        Due.due("nothing to undo", ice.count(8), 0);
        Due.due("sell(0, 3)", ice.sell(0, 3), 0);
        Due.due("sell(2, 1)", ice.sell(2, 1), 3);
        Due.due("sell(0, 0)", ice.sell(0, 0), 3);
        Due.dueCells("sold", ice, 2, 0, 0, 1, N);
        Due.dueCells("as thick", ice, 1, 3, 3, 3, 3);
        ice.saw(1);
        Due.due("sell without ice", ice.sell(1, 2), Due.NO);
        Due.due("to undo", ice.count(8), 4);
    }

    private static void undoes() {
        IceInherited ice = Due.laid("r2,2;f0,0,3;d21;");
        Due.due("undo of nothing", ice.undo(), Due.NO);
        for (int i = 1; i <= 8; i++) {
            ice.pass(1);
            Due.due("can be undone", ice.count(8), i);
        }
        ice.pass(2);
        Due.due("8 at most", ice.count(8), 8);
        Due.due("10 days", ice.count(3), 10);
        Due.due("13 inches", ice.cell(0, 1), 13);
        Due.due("undo", ice.undo(), 7);
        Due.due("two days at one time are one", ice.count(3), 8);
        Due.due("11 inches", ice.cell(0, 1), 11);
        for (int left = 6; left >= 0; left--) {
            Due.due("undo", ice.undo(), left);
            Due.due("days", ice.count(3), left + 1);
        }
        Due.due("undo no more", ice.undo(), Due.NO);
        Due.due("the first day stays", ice.count(3), 1);
        Due.due("4 inches", ice.cell(0, 1), 4);
    }

    private static void undoesTheLastEight() {
        IceInherited ice = Due.laid("r2,2;f0,0,3;");
        for (int i = 1; i <= 10; i++) {
            ice.sell(0, i % 4);
        }
        for (int i = 9; i >= 2; i--) {
            Due.due("undo", ice.undo(), i - 2);
            Due.due("sold " + i + " times", ice.cell(0, 2), i % 4);
        }
        Due.due("undo no more", ice.undo(), Due.NO);
    }

    private static void undoesWhatWasDone() {
        IceInherited ice = Due.laid("r2,2;f0,0,3;i2;d18;d25;l2;");
        ice.sell(1, 2);
        ice.saw(0);
        ice.pass(1);
        ice.drill(0, 1);
        ice.keep();
        Due.dueCells("thawn", ice, 2, N, N, N, N);
        Due.due("undo the day", ice.undo(), 2);
        Due.due("drilled stays", ice.count(7), 1);
        Due.due("kept stays", ice.count(9), 1);
        Due.due("day 0", ice.count(3), 0);
        Due.dueCells("inches", ice, 1, 0, 2, 2, 2);
        Due.dueCells("owners", ice, 2, N, 2, 0, 0);
        Due.due("undo the sawing", ice.undo(), 1);
        Due.dueCells("inches", ice, 1, 2, 2, 2, 2);
        Due.dueCells("owners", ice, 2, 0, 2, 0, 0);
        Due.due("undo the sale", ice.undo(), 0);
        Due.dueCells("owners", ice, 2, 0, 0, 0, 0);
    }
}
