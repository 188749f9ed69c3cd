import java.util.Random;

/** No call ever throws, whatever its numbers, in whatever state, how many calls there were. */
public final class WildTest {
    private static final int[] NUMBERS = {Integer.MIN_VALUE, Integer.MIN_VALUE + 1, -65536, -101,
        -20, -5, -4, -3, -2, -1, 0, 1, 2, 3, 4, 5, 6, 7, 8, 9, 10, 19, 20, 21, 30, 31, 40, 41, 48,
        49, 50, 51, 59, 60, 61, 98, 99, 100, 114, 126, 127, 199, 200, 201, 999, 1000, 9999, 10000,
        65536, Integer.MAX_VALUE - 1, Integer.MAX_VALUE};
    private static final String LETTERS = "rkfidl,,,;;;;0123456789";

    public static void main(String[] args) {
        for (int run = 0; run < 300; run++) {
            Random random = new Random(run);
            IceInherited ice = new IceInherited();
            if (run % 3 == 0) {
                Due.writeAll(ice, "r" + (2 + run % 6) + "," + (2 + run / 6 % 6) + ";f0,0,3;d14;");
                ice.lay();
            }
            for (int call = 0; call < 3000; call++) {
                wild(ice, random);
            }
        }
        Due.end();
    }

    private static void wild(IceInherited ice, Random random) {
        int which = random.nextInt(29);
        int[] n = new int[4];
        for (int i = 0; i < n.length; i++) {
            n[i] = random.nextBoolean() ? NUMBERS[random.nextInt(NUMBERS.length)]
                    : random.nextInt(5);
        }
        String name = which + " of " + n[0] + ", " + n[1] + ", " + n[2] + ", " + n[3];
        try {
            int answer = which == 28 ? ice.write(LETTERS.charAt(random.nextInt(LETTERS.length())))
                    : answer(ice, which, n);
            Due.dueTrue(name + " answers " + answer, answer >= -4);
        } catch (RuntimeException | Error thrown) {
            Due.dueTrue(name + " threw " + thrown, false);
        }
    }

    private static int answer(IceInherited ice, int which, int[] n) {
        return switch (which) {
            case 0 -> ice.write(n[0]);
            case 1 -> ice.wipe();
            case 2 -> ice.fault();
            case 3 -> ice.lay();
            case 4 -> ice.cell(n[0], n[1]);
            case 5 -> ice.family(n[0], n[1]);
            case 6 -> ice.cold(n[0]);
            case 7 -> ice.pass(n[0]);
            case 8 -> ice.saw(n[0]);
            case 9 -> ice.sell(n[0], n[1]);
            case 10 -> ice.undo();
            case 11 -> ice.behind(n[0], n[1], n[2]);
            case 12 -> ice.landless(n[0]);
            case 13 -> ice.falls(n[0], n[1]);
            case 14 -> ice.toll(n[0], n[1], n[2], n[3]);
            case 15 -> ice.wedding(n[0], n[1], n[2], n[3]);
            case 16 -> ice.straw(n[0], n[1], n[2], n[3]);
            case 17 -> ice.split(n[0], n[1]);
            case 18 -> ice.drill(n[0], n[1]);
            case 19 -> ice.forget();
            case 20 -> ice.colds(n[0]);
            case 21 -> ice.across();
            case 22 -> ice.shares(n[0], n[1], n[2]);
            case 23 -> ice.winter(n[0], n[1], n[2]);
            case 24 -> ice.keep();
            case 25 -> ice.back();
            default -> ice.count(n[0]);
        };
    }
}
