/** Promises 13 to 19: behind, landless, falls, toll, wedding, straw, split. */
public final class AheadTest {
    private static final int N = Due.NONE;

    public static void main(String[] args) {
        behind();
        behindByLaw();
        landless();
        landlessAtTheEdge();
        falls();
        tolls();
        tollsByWeight();
        weddings();
        straws();
        strawsThinner();
        splits();
        splitsOfSeveral();
        smallerThanBefore();
        wrongNumbers();
        changesNothing();
        Due.end();
    }

    private static void behind() {
        IceInherited ice = Due.laid("r2,2;k1,1;k2,2;k3,3;f0,0,3;i5;d23;d18;");
        Due.due("behind(0, 0, 0)", ice.behind(0, 0, 0), 5);
        Due.due("behind(0, 2, 1)", ice.behind(0, 2, 1), N);
        int[] first = {8, 7, 6, 8};
        int[] second = {6, 4, 2, 6};
        for (int x = 0; x < 4; x++) {
            Due.due("behind 1", ice.behind(1, x, 0), first[x]);
            Due.due("behind 2", ice.behind(2, x, 0), second[x]);
            Due.due("whose behind 2", ice.behind(2, x, 1), x == 2 ? N : 0);
        }
        Due.due("behind 60", ice.behind(60, 0, 0), 35);
        // The days are those from now on: now it is day 1, a day of -2.
        ice.pass(1);
        Due.due("behind(0, 0, 0) of day 1", ice.behind(0, 0, 0), 8);
        Due.due("behind(1, 0, 0) of day 1", ice.behind(1, 0, 0), 6);
        Due.due("behind(1, 1, 0) of day 1", ice.behind(1, 1, 0), 4);
    }

    private static void behindByLaw() {
        int[] wants = {0, 1, N};
        for (int law = 0; law < 3; law++) {
            IceInherited ice = Due.laid("r2,2;f0,0,3;f1,1,3;d22;l" + law + ";");
            ice.sell(2, 1);
            ice.saw(0);
            Due.due("now nobody's", ice.behind(0, 0, 1), N);
            Due.due("behind by law " + law, ice.behind(1, 0, 1), wants[law]);
            Due.due("behind inches", ice.behind(1, 0, 0), 2);
            Due.due("now still open", ice.cell(0, 1), 0);
        }
    }

    private static void landless() {
        // Family 2's one cell is flowing: it is gone a day ahead of the others'.
        IceInherited ice = Due.laid("r2,2;f1,0,1;f2,2,2;f3,3,3;k2,1;i3;d19;");
        Due.due("who", ice.landless(0), 2);
        Due.due("behind which", ice.landless(1), 2);
        // All at once: the lowest of those that have cells now.
        IceInherited all = Due.laid("r2,2;f3,0,1;f2,2,3;i3;d19;");
        Due.due("of several the lowest", all.landless(0), 2);
        Due.due("behind which", all.landless(1), 3);
        // A family that gets its ice back on the map has had none, all the same.
        IceInherited again = Due.laid("r2,2;f1,0,3;i3;d17;d40;");
        Due.due("none for a day", again.landless(0), 1);
        Due.due("none for a day", again.landless(1), 1);
        // Family 0 has no cell now, and loses none.
        IceInherited never = Due.laid("r2,2;f0,0,3;d22;l2;");
        never.sell(0, 1);
        never.sell(1, 1);
        never.sell(2, 1);
        never.sell(3, 1);
        Due.due("nobody", never.landless(0), N);
        Due.due("nobody", never.landless(1), N);
        Due.due("nobody has any", Due.laid("r2,2;d0;").landless(0), N);
        Due.due("landless(2)", never.landless(2), Due.BAD);
        Due.due("landless(-1)", never.landless(-1), Due.BAD);
    }

    private static void landlessAtTheEdge() {
        // 30 inches, two days lessen them by one: day 60 has 0, or, from 31 on, 1.
        IceInherited last = Due.laid("r2,2;f0,0,3;i30;d20;d19;");
        Due.due("in 60", last.landless(0), 0);
        Due.due("behind 60", last.landless(1), 60);
        IceInherited late = Due.laid("r2,2;f0,0,3;i31;d20;d19;");
        Due.due("not in 60", late.landless(0), N);
        Due.due("not in 60", late.landless(1), N);
    }

    private static void falls() {
        // 8 inches and 16 / 8 bear 10; each day one inch less, of 6 inches 12 / 8 is 1.
        IceInherited ice = Due.laid("r2,2;i8;d19;");
        Due.due("falls(0, 11)", ice.falls(0, 11), 0);
        Due.due("falls(0, 10)", ice.falls(0, 10), 1);
        Due.due("falls(0, 8)", ice.falls(0, 8), 2);
        Due.due("falls(0, 7)", ice.falls(0, 7), 3);
        Due.due("falls(0, 1)", ice.falls(0, 1), 8);
        Due.due("falls(3, 99)", ice.falls(3, 99), 0);
        IceInherited still = Due.laid("r2,2;i8;");
        Due.due("never", still.falls(0, 10), N);
        // Day 60 is the last that counts.
        Due.due("behind 60", Due.laid("r2,2;i30;d20;d19;").falls(0, 1), 60);
        Due.due("behind 62", Due.laid("r2,2;i31;d20;d19;").falls(0, 1), N);
        Due.due("no ice", Due.laid("r2,2;i0;").falls(0, 1), 0);
        Due.due("reeds", Due.laid("r2,2;i8;k0,3;").falls(0, 6), 0);
    }

    private static void tolls() {
        // 0 0 1 1      a way within 0's own, one over nobody's, one over 1's.
        // 2 0 . 1
        // 2 2 0 0
        IceInherited ice = Due.laid("r3,4;f0,0,5;f1,2,7;k6,2;f2,4,9;f0,10,11;f0,5,5;");
        Due.due("own alone", ice.toll(0, 1, 0, 5), 0);
        Due.due("over nobody's", ice.toll(0, 1, 0, 11), 1);
        Due.due("its ends, too", ice.toll(0, 1, 4, 7), 7);
        Due.due("another's", ice.toll(1, 1, 0, 11), 9);
        Due.due("one cell, own", ice.toll(0, 1, 0, 0), 0);
        Due.due("one cell, nobody's", ice.toll(0, 1, 6, 6), 1);
        Due.due("one cell, another's", ice.toll(3, 1, 0, 0), 3);
        Due.due("a family without cells", ice.toll(3, 1, 4, 9), 9);
        Due.due("there and back", ice.toll(0, 1, 11, 0), 1);
        // The shorter way can be the dearer one: 3 of nobody's are as dear as one of another's.
        IceInherited round = Due.laid("r3,3;f0,0,6;f1,1,1;f0,2,2;");
        Due.due("over another's", round.toll(0, 1, 0, 2), 2);
        round.sell(2, 1);
        Due.due("both another's", round.toll(0, 1, 0, 2), 5);
    }

    private static void tollsByWeight() {
        IceInherited ice = Due.laid("r2,3;f0,0,5;i8;");
        // A corner bears 8 + 16 / 8, the middle 8 + 24 / 8.
        Due.due("bears 10", ice.toll(0, 10, 0, 2), 0);
        Due.due("bears no 11 at the ends", ice.toll(0, 11, 0, 2), N);
        Due.due("bears 11 in the middle", ice.toll(0, 11, 1, 4), 0);
        Due.due("bears no 12 there", ice.toll(0, 12, 1, 4), N);
        ice.saw(1);
        Due.due("round an open cell", ice.toll(0, 9, 0, 2), 0);
        Due.due("the others bear 9", ice.toll(0, 9, 3, 5), 0);
        Due.due("0 bears no 10 now", ice.toll(0, 10, 0, 3), N);
        ice.saw(4);
        Due.due("cut through", ice.toll(0, 1, 0, 2), N);
        Due.due("to an open cell", ice.toll(0, 1, 0, 4), N);
        Due.due("from an open cell", ice.toll(0, 1, 4, 0), N);
        Due.due("on an open cell", ice.toll(0, 1, 4, 4), N);
    }

    private static void weddings() {
        // 10 11 10 / 10 11 10: 0 to 2 are 0's, 4 is 1's.
        IceInherited ice = Due.laid("r2,3;f0,0,2;f1,4,4;i8;");
        Due.due("most", ice.wedding(0, 1, 11, 0), 1);
        Due.due("on one", ice.wedding(0, 1, 11, 1), 1);
        Due.due("on three", ice.wedding(0, 2, 5, 1), 3);
        Due.due("still where most is borne", ice.wedding(0, 2, 5, 0), 1);
        Due.due("too many", ice.wedding(0, 12, 1, 0), N);
        Due.due("too many", ice.wedding(0, 12, 1, 1), 0);
        Due.due("too heavy", ice.wedding(0, 2, 6, 0), N);
        Due.due("other's", ice.wedding(1, 11, 1, 0), 4);
        Due.due("no cell", ice.wedding(2, 1, 1, 0), N);
        Due.due("no cell", ice.wedding(2, 1, 1, 1), 0);
        Due.due("the most guests", ice.wedding(0, 50, 99, 0), N);
        Due.due("of several the lowest", Due.laid("r2,2;f2,1,3;").wedding(2, 1, 1, 0), 1);
        Due.due("one guest of 1 on 1 inch", Due.laid("r2,2;f2,0,3;i1;").wedding(2, 1, 1, 0), 0);
        Due.due("one bears 44", Due.laid("r2,2;f2,0,3;i40;").wedding(2, 50, 1, 1), 4);
        Due.due("51", Due.laid("r2,2;f2,0,3;i40;").wedding(2, 1, 51, 1), 0);
    }

    private static void straws() {
        // Of 0: 9, 9, 4 and 3 inches thick.
        IceInherited ice = strawRiver();
        Due.dueCells("straw river", ice, 1, 9, 9, 4, 3, 9, 9);
        Due.due("1 inch", ice.straw(0, 0, 0, 1), 1);
        Due.due("9 inches", ice.straw(0, 0, 0, 9), 1);
        Due.due("10 inches", ice.straw(0, 0, 0, 10), 2);
        Due.due("18 inches", ice.straw(0, 0, 0, 18), 2);
        Due.due("19 inches", ice.straw(0, 0, 0, 19), 3);
        Due.due("22 inches", ice.straw(0, 0, 0, 22), 3);
        Due.due("23 inches", ice.straw(0, 0, 0, 23), 4);
        Due.due("25 inches", ice.straw(0, 0, 0, 25), 4);
        Due.due("26 inches", ice.straw(0, 0, 0, 26), N);
        Due.due("another family", ice.straw(1, 0, 0, 1), 1);
        Due.due("a family without", ice.straw(2, 0, 0, 1), N);
        Due.due("999", ice.straw(0, 0, 0, 999), N);
        IceInherited thick = Due.laid("r7,7;f0,0,48;i40;d40;");
        Due.due("40 each", thick.straw(0, 0, 0, 999), 25);
        thick.pass(1);
        Due.due("60 each", thick.straw(0, 0, 0, 999), 17);
        Due.due("960 of 60", thick.straw(0, 0, 0, 960), 16);
    }

    private static void strawsThinner() {
        IceInherited ice = strawRiver();
        Due.due("2 a day, a day: 7 7 2 1", ice.straw(0, 2, 1, 14), 2);
        Due.due("15", ice.straw(0, 2, 1, 15), 3);
        Due.due("17", ice.straw(0, 2, 1, 17), 4);
        Due.due("18", ice.straw(0, 2, 1, 18), N);
        Due.due("1 a day, 4 days: 5 5 0 0", ice.straw(0, 1, 4, 10), 2);
        Due.due("11", ice.straw(0, 1, 4, 11), N);
        Due.due("9 a day, a day", ice.straw(0, 9, 1, 1), N);
        Due.due("9 a day, no day", ice.straw(0, 9, 0, 18), 2);
        Due.due("none a day, 60 days", ice.straw(0, 0, 60, 18), 2);
        Due.due("9 a day, 60 days", ice.straw(0, 9, 60, 1), N);
    }

    private static IceInherited strawRiver() {
        // 2 is sawn and grows 4 inches; 3, a flowing one, grows 3 inches only.
        IceInherited ice = Due.laid("r2,3;f0,0,5;f1,4,5;i5;d24;k3,1;");
        ice.saw(2);
        ice.saw(3);
        ice.pass(1);
        return ice;
    }

    private static void splits() {
        // 0 0 0 0 0 / 1 1 1 . .
        IceInherited ice = Due.laid("r2,5;f0,0,4;f1,5,7;");
        Due.due("in the middle", ice.split(0, 0), 2);
        Due.due("as large", ice.split(0, 1), 2);
        Due.due("of three", ice.split(1, 0), 6);
        Due.due("of three", ice.split(1, 1), 1);
        Due.due("without cells", ice.split(2, 0), N);
        Due.due("without cells", ice.split(2, 1), N);
        ice.saw(2);
        Due.due("two as large", ice.split(0, 0), N);
        Due.due("two as large", ice.split(0, 1), N);
        ice.saw(0);
        Due.due("2 and 1: either of the two", ice.split(0, 0), 3);
        Due.due("2 and 1", ice.split(0, 1), 1);
        ice.saw(1);
        ice.saw(3);
        Due.due("the last cell", ice.split(0, 0), 4);
        Due.due("the last cell", ice.split(0, 1), 0);
    }

    private static void splitsOfSeveral() {
        // A whole square: each one lessens it by one, the first is told.
        IceInherited ice = Due.laid("r2,2;f0,0,3;");
        Due.due("the lowest", ice.split(0, 0), 0);
        Due.due("as large", ice.split(0, 1), 3);
        // Nobody's and channels first in the row are not those that lessen it.
        IceInherited late = Due.laid("r2,4;k0,2;k4,2;f3,1,7;");
        Due.due("the lowest of its own", late.split(3, 0), 1);
        Due.due("as large", late.split(3, 1), 5);
        // Two squares joined by one cell.
        IceInherited joined = Due.laid("r2,5;f0,0,9;f1,2,2;");
        Due.due("where they join", joined.split(0, 0), 7);
        Due.due("as large", joined.split(0, 1), 4);
    }

    private static void smallerThanBefore() {
        // What a larger river had behind the smaller one's last cell is no more.
        IceInherited ice = Due.laid("r7,7;f0,0,48;i40;");
        ice.wipe();
        Due.writeAll(ice, "r2,2;f0,0,1;i8;d19;");
        Due.due("lay", ice.lay(), 4);
        Due.due("wedding", ice.wedding(0, 1, 10, 1), 2);
        Due.due("too heavy", ice.wedding(0, 1, 11, 1), 0);
        Due.due("straw", ice.straw(0, 0, 0, 17), N);
        Due.due("straw", ice.straw(0, 0, 0, 16), 2);
        Due.due("split", ice.split(0, 0), 0);
        Due.due("split", ice.split(0, 1), 1);
        Due.due("landless", ice.landless(1), 8);
        Due.due("bears", ice.cell(3, 4), 10);
        Due.due("toll", ice.toll(0, 10, 0, 3), 1);
    }

    private static void wrongNumbers() {
        IceInherited ice = new IceInherited();
        int[][] behinds = {{-1, 0, 0}, {61, 0, 0}, {0, -1, 0}, {0, 20, 0}, {0, 0, -1}, {0, 0, 2}};
        for (int[] b : behinds) {
            Due.due("behind", ice.behind(b[0], b[1], b[2]), Due.BAD);
        }
        int[][] falls = {{-1, 1}, {20, 1}, {0, 0}, {0, 100}, {0, -1}};
        for (int[] b : falls) {
            Due.due("falls", ice.falls(b[0], b[1]), Due.BAD);
        }
        int[][] tolls = {{-1, 1, 0, 0}, {4, 1, 0, 0}, {0, 0, 0, 0}, {0, 100, 0, 0},
            {0, 1, -1, 0}, {0, 1, 20, 0}, {0, 1, 0, -1}, {0, 1, 0, 20}, {0, 99, 0, 20}};
        for (int[] b : tolls) {
            Due.due("toll", ice.toll(b[0], b[1], b[2], b[3]), Due.BAD);
        }
        int[][] weddings = {{-1, 1, 1, 0}, {4, 1, 1, 0}, {0, 0, 1, 0}, {0, 51, 1, 0},
            {0, 1, 0, 0}, {0, 1, 100, 0}, {0, 1, 1, -1}, {0, 1, 1, 2}, {-4, 1, 1, 1}};
        for (int[] b : weddings) {
            Due.due("wedding", ice.wedding(b[0], b[1], b[2], b[3]), Due.BAD);
        }
        int[][] straws = {{-1, 0, 0, 1}, {4, 0, 0, 1}, {0, -1, 0, 1}, {0, 10, 0, 1},
            {0, 0, -1, 1}, {0, 0, 61, 1}, {0, 0, 0, 0}, {0, 0, 0, 1000}, {-4, 0, 0, 1}};
        for (int[] b : straws) {
            Due.due("straw", ice.straw(b[0], b[1], b[2], b[3]), Due.BAD);
        }
        int[][] splits = {{-1, 0}, {4, 0}, {0, -1}, {0, 2}, {-4, 0}, {3, 2}};
        for (int[] b : splits) {
            Due.due("split", ice.split(b[0], b[1]), Due.BAD);
        }
    }

    private static void changesNothing() {
        IceInherited ice = new IceInherited();
        ice.behind(60, 0, 0);
        ice.landless(0);
        ice.falls(0, 1);
        ice.toll(0, 1, 0, 19);
        ice.wedding(2, 1, 1, 0);
        ice.straw(2, 0, 0, 9);
        ice.split(2, 0);
        for (int what = 0; what <= 10; what++) {
            int want = new IceInherited().count(what);
            Due.due("count(" + what + ") behind asking", ice.count(what), want);
        }
        Due.due("floe behind asking", ice.cell(12, 5), 10);
    }
}
