/** Promise 1: a new object, and the face's constants. */
public final class NewObjectTest {
    public static void main(String[] args) {
        constants();
        firstRiver();
        firstAnswers();
        objectsAreApart();
        Due.end();
    }

    private static void constants() {
        Due.due("BAD", IceInherited.BAD, -1);
        Due.due("NO", IceInherited.NO, -2);
        Due.due("FULL", IceInherited.FULL, -3);
        Due.due("NONE", IceInherited.NONE, -4);
    }

    private static void firstRiver() {
        IceInherited ice = new IceInherited();
        int n = Due.NONE;
        Due.dueCells("first", ice, 0, 0, 0, 2, 0, 0, 0, 0, 2, 1, 0, 0, 0, 0, 1, 0, 3, 0, 0, 0, 0);
        Due.dueCells("first", ice, 1, 4, 4, 4, 4, 4, 4, 4, 4, 4, 4, 4, 4, 4, 4, 4, 4, 4, 4, 4, 4);
        Due.dueCells("first", ice, 2, 0, 0, n, 1, 1, 0, 0, n, 1, 1, 2, 2, 2, 2, 2, 2, 2, 2, 2, 2);
        Due.dueCells("first", ice, 3, 0, 0, n, 1, 1, 0, 0, n, 1, 1, 2, 2, 2, 2, 2, 2, 2, 2, 2, 2);
        int[] counts = {20, 4, 1, 0, 20, 18, 80, 0, 0, 0, 0};
        for (int what = 0; what < counts.length; what++) {
            Due.due("first count(" + what + ")", ice.count(what), counts[what]);
        }
        int[] colds = {23, 25, 18, 14, 24};
        for (int t = 0; t < 200; t++) {
            Due.due("first cold(" + t + ")", ice.cold(t), colds[t % 5]);
        }
    }

    private static void firstAnswers() {
        IceInherited ice = new IceInherited();
        Due.due("first fault", ice.fault(), Due.NONE);
        Due.due("first lay", ice.lay(), Due.NO);
        Due.due("first wipe", ice.wipe(), 0);
        Due.due("first undo", ice.undo(), Due.NO);
        Due.due("first back", ice.back(), Due.NO);
        Due.due("first forget", ice.forget(), 0);
        Due.due("first colds(0)", ice.colds(0), 41);
        Due.due("first colds(1)", ice.colds(1), 0);
        Due.due("first cells still", ice.count(0), 20);
    }

    private static void objectsAreApart() {
        IceInherited one = new IceInherited();
        IceInherited other = new IceInherited();
        one.saw(0);
        one.keep();
        one.drill(0, 1);
        one.write('r');
        one.pass(3);
        for (int what = 3; what <= 10; what++) {
            int want = new IceInherited().count(what);
            Due.due("other count(" + what + ")", other.count(what), want);
        }
    }
}
