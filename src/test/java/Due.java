/** Compares answers with those that are due, and ends a test with what it found. */
final class Due {
    static final int BAD = -1;
    static final int NO = -2;
    static final int FULL = -3;
    static final int NONE = -4;

    private static int asked = 0;
    private static int wrong = 0;

    private Due() {
    }

    static void due(String call, long got, long want) {
        asked++;
        if (got != want) {
            wrong++;
            System.out.println(call + " answered " + got + ", due is " + want);
        }
    }

    static void dueTrue(String what, boolean holds) {
        asked++;
        if (!holds) {
            wrong++;
            System.out.println("not so: " + what);
        }
    }

    static int wrongSoFar() {
        return wrong;
    }

    static void end() {
        System.out.println(asked + " asked, " + wrong + " not as due");
        if (wrong != 0 || asked == 0) {
            System.exit(1);
        }
    }

    static IceInherited written(String text) {
        IceInherited ice = new IceInherited();
        writeAll(ice, text);
        return ice;
    }

    static void writeAll(IceInherited ice, String text) {
        for (int i = 0; i < text.length(); i++) {
            ice.write(text.charAt(i));
        }
    }

    /** A new object with the text laid; a text that cannot be laid is a fault of the test. */
    static IceInherited laid(String text) {
        IceInherited ice = written(text);
        dueTrue(text + " is laid", ice.lay() > 0);
        return ice;
    }

    /** Compares what cell(x, what) answers for all cells from 0 on. */
    static void dueCells(String name, IceInherited ice, int what, int... wants) {
        for (int x = 0; x < wants.length; x++) {
            due(name + " cell(" + x + ", " + what + ")", ice.cell(x, what), wants[x]);
        }
    }
}
