import java.util.Random;

/** All promises: long runs of calls, each answered as the model answers it. */
public final class ModelTest {
    private static final int RUNS = 1500;
    private static final int CALLS = 512;
    private static final int WRONG_ENOUGH = 20;

    private final Random random;
    private final IceInherited ice = new IceInherited();
    private final Model model = new Model();
    private final int run;
    private int calls = 0;
    private int cells = 20;

    private ModelTest(int run) {
        this.run = run;
        this.random = new Random(run);
    }

    public static void main(String[] args) {
        for (int run = 0; run < RUNS && Due.wrongSoFar() < WRONG_ENOUGH; run++) {
            new ModelTest(run).goThrough();
        }
        Due.end();
    }

    private void goThrough() {
        if (run % 5 != 0) {
            tellRiver();
        }
        while (calls < CALLS && Due.wrongSoFar() < WRONG_ENOUGH) {
            if (random.nextInt(70) == 0) {
                tellRiver();
            } else {
                call(random.nextInt(28));
            }
        }
    }

    private void due(String call, int got, int want) {
        calls++;
        Due.due("run " + run + " call " + calls + ": " + call, got, want);
    }

    private void tellRiver() {
        String text = randomText();
        // What is left of the calls is worth more than a river told late.
        if (calls + text.length() > CALLS - 100) {
            return;
        }
        if (random.nextInt(3) > 0) {
            due("wipe()", ice.wipe(), model.wipe());
        }
        for (char letter : text.toCharArray()) {
            due("write(" + letter + ")", ice.write(letter), model.write(letter));
        }
        due("fault()", ice.fault(), model.fault());
        due("lay()", ice.lay(), model.lay());
        cells = model.count(0);
    }

    private String randomText() {
        StringBuilder text = new StringBuilder();
        int size = 20;
        int columns = 5;
        if (random.nextInt(4) > 0) {
            int rows = 2 + random.nextInt(6);
            columns = 2 + random.nextInt(6);
            size = rows * columns;
            text.append("r").append(rows).append(",").append(columns).append(";");
        }
        int items = 1 + random.nextInt(25);
        for (int i = 0; i < items; i++) {
            switch (random.nextInt(9)) {
                case 0, 1, 2 -> text.append("k").append(random.nextInt(size)).append(",")
                        .append(random.nextInt(4));
                case 3, 4, 5 -> text.append("f").append(random.nextInt(4)).append(",")
                        .append(random.nextInt(size)).append(",").append(random.nextInt(size));
                case 6 -> text.append("i").append(random.nextInt(random.nextBoolean() ? 41 : 12));
                case 7 -> text.append("d").append(random.nextBoolean() ? 14 + random.nextInt(14)
                        : random.nextInt(41));
                default -> text.append("l").append(random.nextInt(3));
            }
            text.append(";");
        }
        if (random.nextInt(6) == 0) {
            spoil(text);
        }
        return text.toString();
    }

    private void spoil(StringBuilder text) {
        String signs = "rkfidl,;0123456789 x~/:";
        int place = random.nextInt(text.length());
        char sign = signs.charAt(random.nextInt(signs.length()));
        switch (random.nextInt(3)) {
            case 0 -> text.setCharAt(place, sign);
            case 1 -> text.insert(place, sign);
            default -> text.deleteCharAt(place);
        }
    }

    /** A number from 0 to most, now and then one just beside it. */
    private int upTo(int most) {
        int n = random.nextInt(60);
        return n == 0 ? -1 : n == 1 ? most + 1 : random.nextInt(most + 1);
    }

    private int aCell() {
        return upTo(cells - 1);
    }

    private void call(int which) {
        if (which < 7) {
            callOfRivers(which);
        } else if (which < 15) {
            callOfDays(which);
        } else if (which < 21) {
            callOfWhatComes(which);
        } else {
            callOfWhatWas(which);
        }
    }

    private void callOfRivers(int which) {
        int x = aCell();
        int f = upTo(3);
        int what = upTo(5);
        int third = upTo(2);
        int day = upTo(199);
        switch (which) {
            case 0 -> due("write(" + day + ")", ice.write(day), model.write(day));
            case 1 -> due("fault()", ice.fault(), model.fault());
            case 2 -> {
                if (random.nextInt(6) == 0) {
                    due("lay()", ice.lay(), model.lay());
                    cells = model.count(0);
                }
            }
            case 3, 4 -> due("cell(" + x + ", " + what + ")", ice.cell(x, what),
                    model.cell(x, what));
            case 5 -> due("family(" + f + ", " + third + ")", ice.family(f, third),
                    model.family(f, third));
            default -> due("cold(" + day + ")", ice.cold(day), model.cold(day));
        }
    }

    private void callOfDays(int which) {
        int x = aCell();
        int f = upTo(3);
        int n = random.nextInt(3) == 0 ? upTo(31) : 1;
        switch (which) {
            case 7, 8 -> due("pass(" + n + ")", ice.pass(n), model.pass(n));
            case 9, 10, 11 -> due("saw(" + x + ")", ice.saw(x), model.saw(x));
            case 12, 13 -> due("sell(" + x + ", " + f + ")", ice.sell(x, f), model.sell(x, f));
            default -> due("undo()", ice.undo(), model.undo());
        }
    }

    private void callOfWhatComes(int which) {
        int x = aCell();
        int y = aCell();
        int f = upTo(3);
        int w = upTo(random.nextBoolean() ? 99 : 12);
        int what = upTo(1);
        int n = upTo(random.nextBoolean() ? 60 : 6);
        switch (which) {
            case 15 -> due("behind(" + n + ", " + x + ", " + what + ")",
                    ice.behind(n, x, what), model.behind(n, x, what));
            case 16 -> due("landless(" + what + ")", ice.landless(what), model.landless(what));
            case 17 -> due("falls(" + x + ", " + w + ")", ice.falls(x, w), model.falls(x, w));
            case 18 -> due("toll(" + f + ", " + w + ", " + x + ", " + y + ")",
                    ice.toll(f, w, x, y), model.toll(f, w, x, y));
            case 19 -> {
                int guests = random.nextInt(3) == 0 ? upTo(50) : upTo(4);
                due("wedding(" + f + ", " + guests + ", " + w + ", " + what + ")",
                        ice.wedding(f, guests, w, what), model.wedding(f, guests, w, what));
            }
            default -> {
                int m = random.nextBoolean() ? upTo(9) : 1;
                int inches = upTo(random.nextBoolean() ? 999 : 60);
                due("straw(" + f + ", " + m + ", " + n + ", " + inches + ")",
                        ice.straw(f, m, n, inches), model.straw(f, m, n, inches));
                due("split(" + f + ", " + what + ")", ice.split(f, what), model.split(f, what));
            }
        }
    }

    private void callOfWhatWas(int which) {
        int x = aCell();
        int f = upTo(3);
        int what = upTo(1);
        int n = upTo(60);
        int z = random.nextInt(3) == 0 ? upTo(9999) : upTo(60);
        int eleventh = upTo(10);
        switch (which) {
            case 21 -> {
                // What a day of some cold brings is drilled, else hardly any cold would fit.
                int inches = random.nextBoolean() ? n : Math.max(0, model.behind(1, x, 0));
                due("drill(" + x + ", " + inches + ")", ice.drill(x, inches),
                        model.drill(x, inches));
                due("colds(" + what + ")", ice.colds(what), model.colds(what));
            }
            case 22 -> due("forget()", ice.forget(), model.forget());
            case 23 -> due("across()", ice.across(), model.across());
            case 24 -> due("shares(" + x + ", " + f + ", " + what + ")",
                    ice.shares(x, f, what), model.shares(x, f, what));
            case 25 -> {
                int family = upTo(4) - 1;
                due("winter(" + z + ", " + n + ", " + family + ")",
                        ice.winter(z, n, family), model.winter(z, n, family));
            }
            case 26 -> {
                if (random.nextInt(3) > 0) {
                    due("keep()", ice.keep(), model.keep());
                } else {
                    due("back()", ice.back(), model.back());
                }
            }
            default -> due("count(" + eleventh + ")", ice.count(eleventh),
                    model.count(eleventh));
        }
    }
}
