import java.math.BigInteger;
import java.util.ArrayDeque;
import java.util.ArrayList;
import java.util.Arrays;
import java.util.Deque;
import java.util.List;
import java.util.regex.Matcher;
import java.util.regex.Pattern;

/**
 * The document once more, told in another way: slow, with the library, and with no row that is
 * used twice. It is only there to be compared with.
 */
final class Model {
    private static final int BAD = -1;
    private static final int NO = -2;
    private static final int FULL = -3;
    private static final int NONE = -4;
    private static final Pattern ITEM = Pattern.compile("([a-z])([0-9]{1,2}(?:,[0-9]{1,2})*);");

    /** What changes while days go by. */
    private record State(List<Integer> ice, List<Integer> owner, int days) {
    }

    /** What a text tells. */
    private static final class Told {
        int rows = 4;
        int columns = 5;
        int[] kind = new int[20];
        int[] map = filled(20);
        int ice = 3;
        int law = 0;
        List<Integer> colds = new ArrayList<>();

        int cells() {
            return rows * columns;
        }

        boolean isCell(int x) {
            return in(x, 0, cells() - 1);
        }

        boolean areBeside(int x, int y) {
            int rowsApart = Math.abs(x / columns - y / columns);
            int columnsApart = Math.abs(x % columns - y % columns);
            return rowsApart + columnsApart == 1;
        }

        int cold(int day) {
            return colds.isEmpty() ? 0 : colds.get(day % colds.size()) - 20;
        }
    }

    private String text = "";
    private Told told = new Told();
    private State now = new State(List.of(), List.of(), 0);
    private Deque<State> undone = new ArrayDeque<>();
    private Deque<State> kept = new ArrayDeque<>();
    private List<int[]> drilled = new ArrayList<>();

    Model() {
        text = "r4,5;k2,2;k7,2;k8,1;k13,1;k15,3;f0,0,6;f1,3,9;f2,10,19;"
                + "i4;d23;d25;d18;d14;d24;l1;";
        lay();
        text = "";
    }

    private static boolean in(int n, int least, int most) {
        return n >= least && n <= most;
    }

    private static int[] filled(int n) {
        int[] all = new int[n];
        Arrays.fill(all, NONE);
        return all;
    }

    // ---- rivers

    int write(int letter) {
        if (!in(letter, 32, 126)) {
            return BAD;
        }
        if (text.length() == 200) {
            return FULL;
        }
        text += (char) letter;
        return text.length();
    }

    int wipe() {
        int length = text.length();
        text = "";
        return length;
    }

    int fault() {
        return tell(new Told());
    }

    private int tell(Told into) {
        Matcher matcher = ITEM.matcher(text);
        String before = "";
        int at = 0;
        while (at < text.length()) {
            matcher.region(at, text.length());
            if (!matcher.lookingAt()) {
                return at;
            }
            String[] parts = matcher.group(2).split(",");
            int[] n = Arrays.stream(parts).mapToInt(Integer::parseInt).toArray();
            if (!tellItem(into, matcher.group(1) + n.length, n, before)) {
                return at;
            }
            before += matcher.group(1);
            at = matcher.end();
        }
        return NONE;
    }

    private static boolean tellItem(Told t, String item, int[] n, String before) {
        switch (item) {
            case "r2":
                if (!before.matches("r*") || !in(n[0], 2, 7) || !in(n[1], 2, 7)) {
                    return false;
                }
                t.rows = n[0];
                t.columns = n[1];
                t.kind = new int[t.cells()];
                t.map = filled(t.cells());
                return true;
            case "k2":
                if (!t.isCell(n[0]) || n[1] > 3) {
                    return false;
                }
                t.kind[n[0]] = n[1];
                return true;
            case "f3":
                if (n[0] > 3 || !t.isCell(n[1]) || !t.isCell(n[2])) {
                    return false;
                }
                for (int row = 0; row < t.rows; row++) {
                    for (int column = 0; column < t.columns; column++) {
                        boolean rowIn = (row - n[1] / t.columns) * (row - n[2] / t.columns) <= 0;
                        if (rowIn && (column - n[1] % t.columns)
                                * (column - n[2] % t.columns) <= 0) {
                            t.map[row * t.columns + column] = n[0];
                        }
                    }
                }
                return true;
            case "i1":
                t.ice = n[0];
                return n[0] <= 40;
            case "d1":
                t.colds.add(n[0]);
                return n[0] <= 40 && t.colds.size() <= 10;
            case "l1":
                t.law = n[0];
                return n[0] <= 2;
            default:
                return false;
        }
    }

    int lay() {
        Told fresh = new Told();
        if (text.isEmpty() || tell(fresh) != NONE) {
            return NO;
        }
        told = fresh;
        List<Integer> ice = new ArrayList<>();
        List<Integer> owner = new ArrayList<>();
        for (int x = 0; x < told.cells(); x++) {
            boolean channel = told.kind[x] == 2;
            ice.add(channel && told.ice > 9 ? 9 : told.ice);
            owner.add(channel || told.ice == 0 ? NONE : told.map[x]);
        }
        now = new State(ice, owner, 0);
        undone.clear();
        kept.clear();
        drilled.clear();
        return told.cells();
    }

    int cell(int x, int what) {
        if (!told.isCell(x) || !in(what, 0, 5)) {
            return BAD;
        }
        int size = now.owner.get(x) == NONE ? 0 : floe(now, x).size();
        int[] all = {told.kind[x], now.ice.get(x), now.owner.get(x), told.map[x], bears(now, x),
            size};
        return all[what];
    }

    int family(int f, int what) {
        if (!in(f, 0, 3) || !in(what, 0, 2)) {
            return BAD;
        }
        int cells = 0;
        double floes = 0;
        for (int x = 0; x < told.cells(); x++) {
            if (now.owner.get(x) == f) {
                cells++;
                floes += 1.0 / floe(now, x).size();
            }
        }
        return what == 0 ? cells : what == 1 ? (int) Math.round(floes) : largest(now, f);
    }

    int cold(int t) {
        return in(t, 0, 199) ? told.cold(t) + 20 : BAD;
    }

    // ---- what holds of one state

    private int bears(State s, int x) {
        if (s.ice.get(x) == 0) {
            return 0;
        }
        int around = 0;
        for (int y = 0; y < told.cells(); y++) {
            around += told.areBeside(x, y) ? s.ice.get(y) : 0;
        }
        int all = s.ice.get(x) + around / 8;
        return told.kind[x] == 3 ? all / 2 : all;
    }

    /** All that hangs together with a cell that somebody has. */
    private List<Integer> floe(State s, int x) {
        List<Integer> floe = new ArrayList<>(List.of(x));
        boolean grew = true;
        while (grew) {
            grew = false;
            for (int y = 0; y < told.cells(); y++) {
                if (s.owner.get(y).equals(s.owner.get(x)) && !floe.contains(y)) {
                    for (int z : new ArrayList<>(floe)) {
                        if (told.areBeside(y, z) && !floe.contains(y)) {
                            floe.add(y);
                            grew = true;
                        }
                    }
                }
            }
        }
        return floe;
    }

    private int largest(State s, int f) {
        int most = 0;
        for (int x = 0; x < told.cells(); x++) {
            most = s.owner.get(x) == f ? Math.max(most, floe(s, x).size()) : most;
        }
        return most;
    }

    private State sawn(State s, int x) {
        List<Integer> ice = new ArrayList<>(s.ice);
        List<Integer> owner = new ArrayList<>(s.owner);
        ice.set(x, 0);
        owner.set(x, NONE);
        return new State(ice, owner, s.days);
    }

    private int thick(int kind, int ice, int cold) {
        int grown = cold;
        if (kind == 1) {
            grown = cold == 0 ? 0 : cold - 1;
        } else if (kind == 2) {
            grown = cold < 0 ? 2 * cold : cold / 2;
        }
        return Math.min(Math.max(ice + grown, 0), kind == 2 ? 9 : 60);
    }

    private State dayBehind(State s, int cold) {
        List<Integer> ice = new ArrayList<>();
        List<Integer> owner = new ArrayList<>();
        for (int x = 0; x < told.cells(); x++) {
            int before = s.ice.get(x);
            int behind = thick(told.kind[x], before, cold);
            ice.add(behind);
            int whose = s.owner.get(x);
            if (behind == 0 || told.kind[x] == 2) {
                whose = NONE;
            } else if (before == 0) {
                whose = told.law == 0 ? told.map[x] : told.law == 1 ? mostBeside(s, x) : NONE;
            }
            owner.add(whose);
        }
        return new State(ice, owner, s.days + 1);
    }

    private int mostBeside(State s, int x) {
        int[] had = new int[4];
        for (int y = 0; y < told.cells(); y++) {
            if (told.areBeside(x, y) && s.owner.get(y) != NONE) {
                had[s.owner.get(y)]++;
            }
        }
        int best = NONE;
        for (int f = 3; f >= 0; f--) {
            if (had[f] > 0 && (best == NONE || had[f] >= had[best])) {
                best = f;
            }
        }
        return best;
    }

    private State behind(State s, int n) {
        State then = s;
        for (int i = 0; i < n; i++) {
            then = dayBehind(then, told.cold(then.days));
        }
        return then;
    }

    // ---- days

    private void remember() {
        undone.addLast(now);
        if (undone.size() > 8) {
            undone.removeFirst();
        }
    }

    int pass(int n) {
        if (!in(n, 1, 30)) {
            return BAD;
        }
        remember();
        now = behind(now, n);
        return now.days;
    }

    int saw(int x) {
        if (!told.isCell(x)) {
            return BAD;
        }
        int was = now.ice.get(x);
        if (was == 0) {
            return NO;
        }
        remember();
        now = sawn(now, x);
        return was;
    }

    int sell(int x, int f) {
        if (!told.isCell(x) || !in(f, 0, 3)) {
            return BAD;
        }
        int was = now.owner.get(x);
        if (was == NONE || was == f) {
            return NO;
        }
        remember();
        List<Integer> owner = new ArrayList<>(now.owner);
        owner.set(x, f);
        now = new State(now.ice, owner, now.days);
        return was;
    }

    int undo() {
        if (undone.isEmpty()) {
            return NO;
        }
        now = undone.removeLast();
        return undone.size();
    }

    // ---- what comes

    int behind(int n, int x, int what) {
        if (!in(n, 0, 60) || !told.isCell(x) || !in(what, 0, 1)) {
            return BAD;
        }
        State then = behind(now, n);
        return what == 0 ? then.ice.get(x) : then.owner.get(x);
    }

    int landless(int what) {
        if (!in(what, 0, 1)) {
            return BAD;
        }
        State then = now;
        for (int n = 1; n <= 60; n++) {
            then = behind(then, 1);
            for (int f = 0; f < 4; f++) {
                if (now.owner.contains(f) && !then.owner.contains(f)) {
                    return what == 0 ? f : n;
                }
            }
        }
        return NONE;
    }

    int falls(int x, int w) {
        if (!told.isCell(x) || !in(w, 1, 99)) {
            return BAD;
        }
        State then = now;
        for (int n = 0; n <= 60; n++) {
            if (bears(then, x) < w) {
                return n;
            }
            then = behind(then, 1);
        }
        return NONE;
    }

    /** The least that ways from a to each cell cost, by trying all steps again and again. */
    private long[] leastFrom(int a, long[] cost) {
        long far = Integer.MAX_VALUE;
        long[] least = new long[cost.length];
        Arrays.fill(least, far);
        least[a] = cost[a];
        for (int round = 0; round < cost.length; round++) {
            for (int x = 0; x < cost.length; x++) {
                for (int y = 0; y < cost.length; y++) {
                    if (told.areBeside(x, y)) {
                        least[y] = Math.min(least[y], Math.min(far, least[x] + cost[y]));
                    }
                }
            }
        }
        return least;
    }

    int toll(int f, int w, int a, int b) {
        if (!in(f, 0, 3) || !in(w, 1, 99) || !told.isCell(a) || !told.isCell(b)) {
            return BAD;
        }
        long[] cost = new long[told.cells()];
        for (int x = 0; x < cost.length; x++) {
            int whose = now.owner.get(x);
            cost[x] = bears(now, x) < w ? Integer.MAX_VALUE : whose == f ? 0 : whose < 0 ? 1 : 3;
        }
        long least = leastFrom(a, cost)[b];
        return least == Integer.MAX_VALUE ? NONE : (int) least;
    }

    int wedding(int f, int n, int w, int what) {
        if (!in(f, 0, 3) || !in(n, 1, 50) || !in(w, 1, 99) || !in(what, 0, 1)) {
            return BAD;
        }
        int best = NONE;
        int fit = 0;
        for (int x = told.cells() - 1; x >= 0; x--) {
            if (now.owner.get(x) == f) {
                fit += bears(now, x) >= n * w ? 1 : 0;
                best = best == NONE || bears(now, x) >= bears(now, best) ? x : best;
            }
        }
        return what == 1 ? fit : fit == 0 ? NONE : best;
    }

    int straw(int f, int m, int d, int n) {
        if (!in(f, 0, 3) || !in(m, 0, 9) || !in(d, 0, 60) || !in(n, 1, 999)) {
            return BAD;
        }
        // fewest[s]: the fewest of the cells seen so far that have s inches together, or more.
        int[] fewest = new int[n + 1];
        Arrays.fill(fewest, 1, n + 1, 1000);
        for (int x = 0; x < told.cells(); x++) {
            if (now.owner.get(x) == f) {
                int thick = Math.max(0, now.ice.get(x) - m * d);
                for (int s = n; s > 0; s--) {
                    fewest[s] = Math.min(fewest[s], fewest[Math.max(0, s - thick)] + 1);
                }
            }
        }
        return fewest[n] >= 1000 ? NONE : fewest[n];
    }

    int split(int f, int what) {
        if (!in(f, 0, 3) || !in(what, 0, 1)) {
            return BAD;
        }
        int least = largest(now, f);
        int best = NONE;
        for (int x = 0; x < told.cells(); x++) {
            if (now.ice.get(x) > 0) {
                int then = largest(sawn(now, x), f);
                if (then < least) {
                    least = then;
                    best = x;
                }
            }
        }
        return best == NONE ? NONE : what == 0 ? best : least;
    }

    // ---- what was

    int drill(int x, int inches) {
        if (!told.isCell(x) || !in(inches, 0, 60)) {
            return BAD;
        }
        if (drilled.size() == 6) {
            return FULL;
        }
        drilled.add(new int[] {x, inches});
        return drilled.size();
    }

    int forget() {
        int were = drilled.size();
        drilled.clear();
        return were;
    }

    int colds(int what) {
        if (!in(what, 0, 1)) {
            return BAD;
        }
        List<Integer> fit = new ArrayList<>();
        for (int c = 0; c <= 40; c++) {
            State then = dayBehind(now, c - 20);
            boolean so = true;
            for (int[] d : drilled) {
                so &= then.ice.get(d[0]) == d[1];
            }
            if (so) {
                fit.add(c);
            }
        }
        return what == 0 ? fit.size() : fit.isEmpty() ? NONE : fit.get(0);
    }

    int across() {
        long[] cost = new long[told.cells()];
        for (int x = 0; x < cost.length; x++) {
            cost[x] = now.ice.get(x) == 0 ? 1 : 0;
        }
        long least = Integer.MAX_VALUE;
        for (int a = 0; a < told.columns; a++) {
            long[] from = leastFrom(a, cost);
            for (int b = cost.length - told.columns; b < cost.length; b++) {
                least = Math.min(least, from[b]);
            }
        }
        return (int) least;
    }

    int shares(int x, int f, int part) {
        if (!told.isCell(x) || !in(f, 0, 3) || !in(part, 0, 1)) {
            return BAD;
        }
        if (now.owner.get(x) == NONE) {
            return NONE;
        }
        int above = 0;
        int below = 0;
        for (int y : floe(now, x)) {
            above += told.map[y] == f ? 1 : 0;
            below++;
        }
        int common = BigInteger.valueOf(above).gcd(BigInteger.valueOf(below)).intValue();
        return part == 0 ? above / common : below / common;
    }

    int winter(int z, int n, int f) {
        if (!in(z, 0, 9999) || !in(n, 1, 60) || !in(f, -1, 3)) {
            return BAD;
        }
        State then = now;
        int without = 0;
        for (int k = 0; k < n; k++) {
            BigInteger x = BigInteger.valueOf(7919L * z + 6151L * k + 1);
            int draw = x.modPow(BigInteger.TWO, BigInteger.valueOf(65521)).intValue() / 8;
            then = dayBehind(then, draw % 21 - 8);
            without += then.owner.contains(f) ? 0 : 1;
        }
        return f == -1 ? withIce(then) : without;
    }

    private static int withIce(State s) {
        return (int) s.ice.stream().filter(i -> i > 0).count();
    }

    int keep() {
        if (kept.size() == 2) {
            return FULL;
        }
        kept.addLast(now);
        return kept.size();
    }

    int back() {
        if (kept.isEmpty()) {
            return NO;
        }
        now = kept.removeLast();
        undone.clear();
        return kept.size();
    }

    int count(int what) {
        if (!in(what, 0, 10)) {
            return BAD;
        }
        int owned = (int) now.owner.stream().filter(f -> f != NONE).count();
        int inches = now.ice.stream().mapToInt(i -> i).sum();
        int[] all = {told.cells(), told.rows, told.law, now.days, withIce(now), owned, inches,
            drilled.size(), undone.size(), kept.size(), text.length()};
        return all[what];
    }
}
