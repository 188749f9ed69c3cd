import java.util.ArrayList;
import java.util.List;

/**
 * BAD, NO, NONE, FULL, the first of several in this order, and that nothing changes then: each
 * call that is refused, in an object that is new, in one in the midst of its days, and in one
 * where nothing more can be written, undone, drilled or kept.
 */
public final class RefusedTest {
    private static final int N = Due.NONE;
    private static final String RIVER = "r2,3;k1,1;k5,2;f0,0,4;f1,4,5;i6;d23;d15;l1;";
    private static final int[] FAR = {Integer.MIN_VALUE, -1000000, -7, -3, 1000000,
        Integer.MAX_VALUE};

    /** A call, what it is told by, and what is due. */
    private record Refused(String call, Twins.Asked asked, int want) {
    }

    public static void main(String[] args) {
        dueRefused("new", RefusedTest::aNewOne, ofAll(20), ofANewOne());
        dueRefused("midst", RefusedTest::inTheMidst, ofAll(6), ofOneInTheMidst());
        dueRefused("full", RefusedTest::aFullOne, ofAll(6), ofAFullOne());
        refusedOverAndOver();
        Due.end();
    }

    private static IceInherited aNewOne() {
        return new IceInherited();
    }

    /** 9 8 9 inches, then a sawn one, 9 and a channel's 7; 0 0 . / . 1 . are their owners. */
    private static IceInherited inTheMidst() {
        IceInherited ice = Due.laid(RIVER);
        ice.pass(1);
        ice.keep();
        ice.saw(3);
        ice.drill(0, 5);
        ice.write('x');
        return ice;
    }

    private static IceInherited aFullOne() {
        IceInherited ice = Due.laid(RIVER);
        Due.writeAll(ice, "i06;".repeat(37) + "i6;".repeat(3));
        ice.pass(1);
        ice.saw(3);
        ice.keep();
        for (int i = 0; i < 6; i++) {
            ice.sell(0, 3 - i % 2);
            ice.drill(i, 5);
        }
        ice.keep();
        ice.sell(4, 2);
        Due.due("letters", ice.count(10), 200);
        Due.due("undone", ice.count(8), 8);
        return ice;
    }

    private static void dueRefused(String name, Twins.Made made, List<Refused> one,
            List<Refused> other) {
        for (Refused refused : one) {
            Twins.dueRefused(name + " " + refused.call, made, refused.asked, refused.want);
        }
        for (Refused refused : other) {
            Twins.dueRefused(name + " " + refused.call, made, refused.asked, refused.want);
        }
    }

    /** What is BAD in whatever state, of a river of so many cells. */
    private static List<Refused> ofAll(int cells) {
        List<Refused> all = new ArrayList<>();
        wrongCells(all, cells);
        wrongCells(all, -1);
        wrongFamilies(all, 4);
        wrongFamilies(all, -1);
        wrongNumbers(all);
        for (int far : FAR) {
            wrongCells(all, far);
            wrongFamilies(all, far);
            wrongWhats(all, far);
        }
        wrongWhats(all, -1);
        wrongWhats(all, 11);
        bad(all, "cell 6", ice -> ice.cell(0, 6));
        bad(all, "family 3", ice -> ice.family(0, 3));
        wrongEithers(all, 2);
        return all;
    }

    private static void bad(List<Refused> all, String call, Twins.Asked asked) {
        all.add(new Refused(call, asked, Due.BAD));
    }

    private static void wrongCells(List<Refused> all, int x) {
        bad(all, "cell of " + x, ice -> ice.cell(x, 0));
        bad(all, "saw of " + x, ice -> ice.saw(x));
        bad(all, "sell of " + x, ice -> ice.sell(x, 0));
        bad(all, "behind of " + x, ice -> ice.behind(0, x, 0));
        bad(all, "falls of " + x, ice -> ice.falls(x, 1));
        bad(all, "toll from " + x, ice -> ice.toll(0, 1, x, 0));
        bad(all, "toll to " + x, ice -> ice.toll(0, 1, 0, x));
        bad(all, "drill of " + x, ice -> ice.drill(x, 0));
        bad(all, "shares of " + x, ice -> ice.shares(x, 0, 0));
    }

    private static void wrongFamilies(List<Refused> all, int f) {
        bad(all, "family " + f, ice -> ice.family(f, 0));
        bad(all, "sell to " + f, ice -> ice.sell(0, f));
        bad(all, "toll for " + f, ice -> ice.toll(f, 1, 0, 0));
        bad(all, "wedding of " + f, ice -> ice.wedding(f, 1, 1, 0));
        bad(all, "straw of " + f, ice -> ice.straw(f, 0, 0, 1));
        bad(all, "split of " + f, ice -> ice.split(f, 0));
        bad(all, "shares for " + f, ice -> ice.shares(0, f, 0));
        if (f != -1) {
            bad(all, "winter of " + f, ice -> ice.winter(0, 1, f));
        }
    }

    private static void wrongWhats(List<Refused> all, int what) {
        bad(all, "cell " + what, ice -> ice.cell(0, what));
        bad(all, "family, " + what, ice -> ice.family(0, what));
        bad(all, "count " + what, ice -> ice.count(what));
        wrongEithers(all, what);
    }

    private static void wrongEithers(List<Refused> all, int what) {
        bad(all, "behind, " + what, ice -> ice.behind(0, 0, what));
        bad(all, "landless " + what, ice -> ice.landless(what));
        bad(all, "wedding, " + what, ice -> ice.wedding(0, 1, 1, what));
        bad(all, "split, " + what, ice -> ice.split(0, what));
        bad(all, "colds " + what, ice -> ice.colds(what));
        bad(all, "shares, " + what, ice -> ice.shares(0, 0, what));
    }

    private static void wrongNumbers(List<Refused> all) {
        for (int letter : new int[] {31, 127, -1, 65536 + 'i'}) {
            bad(all, "write " + letter, ice -> ice.write(letter));
        }
        for (int t : new int[] {-1, 200, 1000000}) {
            bad(all, "cold " + t, ice -> ice.cold(t));
        }
        for (int n : new int[] {0, 31, -1, -30, 1000000}) {
            bad(all, "pass " + n, ice -> ice.pass(n));
        }
        for (int n : new int[] {-1, 61, 1000000}) {
            bad(all, "behind " + n, ice -> ice.behind(n, 0, 0));
            bad(all, "straw, days " + n, ice -> ice.straw(0, 0, n, 1));
            bad(all, "drill " + n, ice -> ice.drill(0, n));
        }
        for (int w : new int[] {0, 100, -1, 1000000}) {
            bad(all, "falls " + w, ice -> ice.falls(0, w));
            bad(all, "toll " + w, ice -> ice.toll(0, w, 0, 0));
            bad(all, "wedding, weight " + w, ice -> ice.wedding(0, 1, w, 0));
        }
        for (int n : new int[] {0, 51, -1, 1 << 30}) {
            bad(all, "wedding, guests " + n, ice -> ice.wedding(0, n, 1, 0));
        }
        for (int m : new int[] {-1, 10, 1 << 30}) {
            bad(all, "straw, thinner " + m, ice -> ice.straw(0, m, 0, 1));
        }
        for (int n : new int[] {0, 1000, -1}) {
            bad(all, "straw, inches " + n, ice -> ice.straw(0, 0, 0, n));
        }
        for (int z : new int[] {-1, 10000, 1 << 30}) {
            bad(all, "winter by " + z, ice -> ice.winter(z, 1, -1));
        }
        for (int n : new int[] {0, 61, -1}) {
            bad(all, "winter of days " + n, ice -> ice.winter(0, n, -1));
        }
        for (int f : new int[] {-2, -4, 4}) {
            bad(all, "winter of family " + f, ice -> ice.winter(0, 1, f));
        }
    }

    private static List<Refused> ofANewOne() {
        return List.of(
                new Refused("lay", IceInherited::lay, Due.NO),
                new Refused("undo", IceInherited::undo, Due.NO),
                new Refused("back", IceInherited::back, Due.NO),
                new Refused("sell nobody's", ice -> ice.sell(2, 0), Due.NO),
                new Refused("sell its own", ice -> ice.sell(0, 0), Due.NO),
                new Refused("sell nobody's to none", ice -> ice.sell(2, 4), Due.BAD),
                new Refused("fault", IceInherited::fault, N),
                new Refused("cell of nobody", ice -> ice.cell(2, 2), N),
                new Refused("cell of nobody on the map", ice -> ice.cell(2, 3), N),
                new Refused("behind of nobody", ice -> ice.behind(1, 2, 1), N),
                new Refused("toll too heavy", ice -> ice.toll(0, 99, 0, 1), N),
                new Refused("wedding too heavy", ice -> ice.wedding(0, 50, 99, 0), N),
                new Refused("straw too much", ice -> ice.straw(0, 9, 60, 999), N),
                new Refused("split of 3", ice -> ice.split(3, 0), N),
                new Refused("shares of nobody", ice -> ice.shares(2, 0, 0), N));
    }

    private static List<Refused> ofOneInTheMidst() {
        return List.of(
                new Refused("lay of a fault", IceInherited::lay, Due.NO),
                new Refused("saw water", ice -> ice.saw(3), Due.NO),
                new Refused("sell water", ice -> ice.sell(3, 0), Due.NO),
                new Refused("sell a channel", ice -> ice.sell(5, 0), Due.NO),
                new Refused("sell nobody's", ice -> ice.sell(2, 3), Due.NO),
                new Refused("sell its own", ice -> ice.sell(4, 1), Due.NO),
                new Refused("sell water to none", ice -> ice.sell(3, -1), Due.BAD),
                new Refused("toll over water", ice -> ice.toll(0, 1, 3, 0), N),
                new Refused("toll over water to none", ice -> ice.toll(0, 1, 3, 6), Due.BAD),
                new Refused("wedding of 2", ice -> ice.wedding(2, 1, 1, 0), N),
                new Refused("wedding of 2, of 100", ice -> ice.wedding(2, 1, 100, 0), Due.BAD),
                new Refused("straw of 2", ice -> ice.straw(2, 0, 0, 1), N),
                new Refused("straw of 2, of 1000", ice -> ice.straw(2, 0, 0, 1000), Due.BAD),
                new Refused("split of 2", ice -> ice.split(2, 1), N),
                new Refused("split of 2, 2", ice -> ice.split(2, 2), Due.BAD),
                new Refused("shares of water", ice -> ice.shares(3, 0, 1), N),
                new Refused("shares of water for 4", ice -> ice.shares(3, 4, 1), Due.BAD));
    }

    private static List<Refused> ofAFullOne() {
        return List.of(
                new Refused("write", ice -> ice.write('i'), Due.FULL),
                new Refused("write ;", ice -> ice.write(';'), Due.FULL),
                new Refused("write 126", ice -> ice.write(126), Due.FULL),
                new Refused("write 32", ice -> ice.write(32), Due.FULL),
                new Refused("drill", ice -> ice.drill(0, 9), Due.FULL),
                new Refused("drill 0", ice -> ice.drill(5, 0), Due.FULL),
                new Refused("drill 60", ice -> ice.drill(5, 60), Due.FULL),
                new Refused("keep", IceInherited::keep, Due.FULL),
                new Refused("saw water", ice -> ice.saw(3), Due.NO),
                new Refused("sell its own", ice -> ice.sell(4, 2), Due.NO),
                new Refused("sell nobody's", ice -> ice.sell(2, 2), Due.NO),
                new Refused("colds that are none", ice -> ice.colds(1), N));
    }

    /** Refused calls between all others: the answers are those of an object without them. */
    private static void refusedOverAndOver() {
        IceInherited plain = Due.laid(RIVER);
        IceInherited often = Due.laid(RIVER);
        for (int i = 0; i < 12; i++) {
            refuse(often);
            Due.due("pass", often.pass(1 + i % 3), plain.pass(1 + i % 3));
            refuse(often);
            Due.due("sell", often.sell(i % 6, i % 4), plain.sell(i % 6, i % 4));
            Due.due("drill", often.drill(i % 6, i), plain.drill(i % 6, i));
            Due.due("undone", often.count(8), plain.count(8));
            Due.due("inches", often.count(6), plain.count(6));
            Due.due("day", often.count(3), plain.count(3));
        }
        for (int i = 0; i < 9; i++) {
            Due.due("undo", often.undo(), plain.undo());
            Due.due("day", often.count(3), plain.count(3));
            Due.due("inches", often.count(6), plain.count(6));
        }
    }

    private static void refuse(IceInherited ice) {
        Due.due("pass", ice.pass(31), Due.BAD);
        Due.due("saw", ice.saw(6), Due.BAD);
        Due.due("sell", ice.sell(5, 0), Due.NO);
        Due.due("sell", ice.sell(0, 4), Due.BAD);
        Due.due("drill", ice.drill(0, 61), Due.BAD);
        Due.due("write", ice.write(127), Due.BAD);
        Due.due("back", ice.back(), Due.NO);
        Due.due("winter", ice.winter(0, 61, 0), Due.BAD);
        Due.due("behind", ice.behind(61, 0, 0), Due.BAD);
    }
}
