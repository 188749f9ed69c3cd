import java.util.Arrays;

/**
 * A river frozen by families, each of which has its floes: what holds of it now, behind days that
 * are to come, and behind days that were.
 *
 * <p>All rows are made with the object and used again by every call, so that no call makes an
 * object of its own.
 */
public final class IceInherited {
    public static final int BAD = -1, NO = -2, FULL = -3, NONE = -4;

    private static final int TEXT_LIMIT = 200;
    private static final int FIRST_LETTER = 32;
    private static final int LAST_LETTER = 126;
    private static final String FIRST_TEXT =
            "r4,5;k2,2;k7,2;k8,1;k13,1;k15,3;f0,0,6;f1,3,9;f2,10,19;i4;d23;d25;d18;d14;d24;l1;";

    private static final int SIDE_LEAST = 2;
    private static final int SIDE_MOST = 7;
    /** Every row of cells has this length; a river has as many cells or fewer. */
    private static final int CELL_LIMIT = 49;
    private static final int SIDES = 4;
    private static final int KINDS = 4;
    private static final int FAMILIES = 4;
    private static final int LAWS = 3;

    private static final int CALM = 0;
    private static final int FLOWING = 1;
    private static final int CHANNEL = 2;
    private static final int REEDS = 3;

    private static final int LAW_MAP = 0;
    private static final int LAW_BESIDE = 1;

    private static final int COLD_ITEMS = 10;
    private static final int COLD_MOST = 40;
    private static final int COLD_ZERO = 20;
    private static final int COLD_TOLD_DAYS = 200;

    private static final int START_MOST = 40;
    private static final int INCHES_MOST = 60;
    private static final int CHANNEL_MOST = 9;

    private static final int PASS_MOST = 30;
    private static final int AHEAD_MOST = 60;
    private static final int WEIGHT_MOST = 99;
    private static final int GUESTS_MOST = 50;
    private static final int THINNER_MOST = 9;
    private static final int STRAW_MOST = 999;
    private static final int DRAW_MOST = 9999;

    private static final int UNDO_LIMIT = 8;
    private static final int KEEP_LIMIT = 2;
    private static final int DRILL_LIMIT = 6;

    private final Text text;
    private final Reader reader;
    private final Ice now;
    /** Ice of days that are only thought of; every call that uses it sets it anew. */
    private final Ice ahead;
    private final Shelf undone;
    private final Shelf kept;
    private final Floes floes;
    private final Ways ways;
    private final int[] drilledCell;
    private final int[] drilledInches;
    private int drilled;
    private River river;
    /** Where a text is read to, so that a text with a fault leaves the river as it is. */
    private River spare;

    public IceInherited() {
        text = new Text();
        reader = new Reader();
        now = new Ice();
        ahead = new Ice();
        undone = new Shelf(UNDO_LIMIT);
        kept = new Shelf(KEEP_LIMIT);
        floes = new Floes();
        ways = new Ways();
        drilledCell = new int[DRILL_LIMIT];
        drilledInches = new int[DRILL_LIMIT];
        river = new River();
        spare = new River();
        for (int i = 0; i < FIRST_TEXT.length(); i++) {
            text.append(FIRST_TEXT.charAt(i));
        }
        layText();
        text.length = 0;
    }

    // ---- rivers

    public int write(int letter) {
        if (letter < FIRST_LETTER || letter > LAST_LETTER) {
            return BAD;
        }
        return text.append((char) letter) ? text.length : FULL;
    }

    public int wipe() {
        int length = text.length;
        text.length = 0;
        return length;
    }

    public int fault() {
        return reader.readInto(text, spare);
    }

    public int lay() {
        return layText() ? river.cells : NO;
    }

    public int cell(int x, int what) {
        if (!river.hasCell(x)) {
            return BAD;
        }
        switch (what) {
            case 0:
                return river.kind[x];
            case 1:
                return now.inches[x];
            case 2:
                return now.owner[x];
            case 3:
                return river.map[x];
            case 4:
                return now.bears(river, x);
            case 5:
                return floes.sizeAround(river, now, x);
            default:
                return BAD;
        }
    }

    public int family(int f, int what) {
        if (!isFamily(f)) {
            return BAD;
        }
        switch (what) {
            case 0:
                return now.cellsOf(river, f);
            case 1:
                floes.measure(river, now, f);
                return floes.number;
            case 2:
                floes.measure(river, now, f);
                return floes.largest;
            default:
                return BAD;
        }
    }

    public int cold(int t) {
        return t < 0 || t >= COLD_TOLD_DAYS ? BAD : river.coldOn(t) + COLD_ZERO;
    }

    // ---- days

    public int pass(int n) {
        if (n < 1 || n > PASS_MOST) {
            return BAD;
        }
        undone.put(now);
        now.passDays(river, n);
        return now.day;
    }

    public int saw(int x) {
        if (!river.hasCell(x)) {
            return BAD;
        }
        int thick = now.inches[x];
        if (thick == 0) {
            return NO;
        }
        undone.put(now);
        now.sawOut(x);
        return thick;
    }

    public int sell(int x, int f) {
        if (!river.hasCell(x) || !isFamily(f)) {
            return BAD;
        }
        int seller = now.owner[x];
        if (seller == NONE || seller == f) {
            return NO;
        }
        undone.put(now);
        now.owner[x] = f;
        return seller;
    }

    public int undo() {
        return undone.takeInto(now) ? undone.used : NO;
    }

    // ---- what comes

    public int behind(int n, int x, int what) {
        if (n < 0 || n > AHEAD_MOST || !river.hasCell(x) || !isEither(what)) {
            return BAD;
        }
        ahead.setTo(now);
        ahead.passDays(river, n);
        return what == 0 ? ahead.inches[x] : ahead.owner[x];
    }

    public int landless(int what) {
        if (!isEither(what)) {
            return BAD;
        }
        ahead.setTo(now);
        for (int day = 1; day <= AHEAD_MOST; day++) {
            ahead.passDays(river, 1);
            for (int f = 0; f < FAMILIES; f++) {
                if (!ahead.hasAny(river, f) && now.hasAny(river, f)) {
                    return what == 0 ? f : day;
                }
            }
        }
        return NONE;
    }

    public int falls(int x, int w) {
        if (!river.hasCell(x) || !isWeight(w)) {
            return BAD;
        }
        ahead.setTo(now);
        for (int day = 0; day <= AHEAD_MOST; day++) {
            if (ahead.bears(river, x) < w) {
                return day;
            }
            ahead.passDays(river, 1);
        }
        return NONE;
    }

    public int toll(int f, int w, int a, int b) {
        if (!isFamily(f) || !isWeight(w) || !river.hasCell(a) || !river.hasCell(b)) {
            return BAD;
        }
        ways.clear();
        for (int x = 0; x < river.cells; x++) {
            ways.cost[x] = now.bears(river, x) < w ? Ways.CLOSED : now.tollOf(x, f);
        }
        ways.startAt(a);
        ways.spread(river);
        return ways.leastTo(b);
    }

    public int wedding(int f, int n, int w, int what) {
        if (!isFamily(f) || n < 1 || n > GUESTS_MOST || !isWeight(w) || !isEither(what)) {
            return BAD;
        }
        int best = NONE;
        int most = 0;
        int fit = 0;
        for (int x = 0; x < river.cells; x++) {
            int bears = now.owner[x] == f ? now.bears(river, x) : 0;
            if (bears >= n * w) {
                fit++;
                if (bears > most) {
                    best = x;
                    most = bears;
                }
            }
        }
        return what == 0 ? best : fit;
    }

    public int straw(int f, int m, int d, int n) {
        if (!isFamily(f) || m < 0 || m > THINNER_MOST || d < 0 || d > AHEAD_MOST
                || n < 1 || n > STRAW_MOST) {
            return BAD;
        }
        int blocks = 0;
        int left = n;
        // The thickest blocks first are the fewest, and a cell is never thicker than INCHES_MOST.
        for (int thick = INCHES_MOST; thick > m * d; thick--) {
            for (int x = 0; x < river.cells; x++) {
                if (now.owner[x] == f && now.inches[x] == thick) {
                    blocks++;
                    left -= thick - m * d;
                    if (left <= 0) {
                        return blocks;
                    }
                }
            }
        }
        return NONE;
    }

    public int split(int f, int what) {
        if (!isFamily(f) || !isEither(what)) {
            return BAD;
        }
        floes.measure(river, now, f);
        int best = NONE;
        int least = floes.largest;
        // Ice of others does not hang together with the family's floes: sawn, it lessens none.
        for (int x = 0; x < river.cells; x++) {
            if (now.owner[x] == f) {
                ahead.setTo(now);
                ahead.sawOut(x);
                floes.measure(river, ahead, f);
                if (floes.largest < least) {
                    best = x;
                    least = floes.largest;
                }
            }
        }
        return best == NONE || what == 0 ? best : least;
    }

    // ---- what was

    public int drill(int x, int inches) {
        if (!river.hasCell(x) || inches < 0 || inches > INCHES_MOST) {
            return BAD;
        }
        if (drilled >= DRILL_LIMIT) {
            return FULL;
        }
        drilledCell[drilled] = x;
        drilledInches[drilled] = inches;
        drilled++;
        return drilled;
    }

    public int forget() {
        int were = drilled;
        drilled = 0;
        return were;
    }

    public int colds(int what) {
        if (!isEither(what)) {
            return BAD;
        }
        int lowest = NONE;
        int fit = 0;
        for (int c = 0; c <= COLD_MOST; c++) {
            if (fitsDrilled(c - COLD_ZERO)) {
                fit++;
                if (lowest == NONE) {
                    lowest = c;
                }
            }
        }
        return what == 0 ? fit : lowest;
    }

    public int across() {
        ways.clear();
        for (int x = 0; x < river.cells; x++) {
            ways.cost[x] = now.inches[x] == 0 ? 1 : 0;
        }
        for (int x = 0; x < river.columns; x++) {
            ways.startAt(x);
        }
        ways.spread(river);
        int least = river.cells;
        for (int x = river.cells - river.columns; x < river.cells; x++) {
            least = Math.min(least, ways.leastTo(x));
        }
        return least;
    }

    public int shares(int x, int f, int part) {
        if (!river.hasCell(x) || !isFamily(f) || !isEither(part)) {
            return BAD;
        }
        if (now.owner[x] == NONE) {
            return NONE;
        }
        int below = floes.sizeAround(river, now, x);
        int above = floes.seenOnMapOf(river, f);
        int divisor = greatestDivisor(above, below);
        if (divisor == 0) {
            return NONE;
        }
        return (part == 0 ? above : below) / divisor;
    }

    public int winter(int z, int n, int f) {
        if (z < 0 || z > DRAW_MOST || n < 1 || n > AHEAD_MOST || (f != -1 && !isFamily(f))) {
            return BAD;
        }
        int without = 0;
        ahead.setTo(now);
        for (int k = 0; k < n; k++) {
            ahead.passDay(river, drawnCold(z, k));
            if (!ahead.hasAny(river, f)) {
                without++;
            }
        }
        return f == -1 ? ahead.cellsWithIce(river) : without;
    }

    public int keep() {
        if (kept.used >= KEEP_LIMIT) {
            return FULL;
        }
        kept.put(now);
        return kept.used;
    }

    public int back() {
        if (!kept.takeInto(now)) {
            return NO;
        }
        undone.used = 0;
        return kept.used;
    }

    public int count(int what) {
        switch (what) {
            case 0:
                return river.cells;
            case 1:
                return river.rows;
            case 2:
                return river.law;
            case 3:
                return now.day;
            case 4:
                return now.cellsWithIce(river);
            case 5:
                return river.cells - now.cellsOf(river, NONE);
            case 6:
                return now.inchesInAll(river);
            case 7:
                return drilled;
            case 8:
                return undone.used;
            case 9:
                return kept.used;
            case 10:
                return text.length;
            default:
                return BAD;
        }
    }

    private boolean layText() {
        if (text.length == 0 || reader.readInto(text, spare) != NONE) {
            return false;
        }
        River before = river;
        river = spare;
        spare = before;
        now.startOn(river);
        drilled = 0;
        undone.used = 0;
        kept.used = 0;
        return true;
    }

    private boolean fitsDrilled(int cold) {
        for (int i = 0; i < drilled && i < DRILL_LIMIT; i++) {
            int x = drilledCell[i];
            if (river.hasCell(x)
                    && River.thickBehind(river.kind[x], now.inches[x], cold) != drilledInches[i]) {
                return false;
            }
        }
        return true;
    }

    private static int drawnCold(int z, int k) {
        // The square of x is far beyond an int.
        long x = 7919L * z + 6151L * k + 1;
        long draw = x * x % 65521 / 8;
        return (int) (draw % 21) - 8;
    }

    private static boolean isFamily(int f) {
        return f >= 0 && f < FAMILIES;
    }

    private static boolean isWeight(int w) {
        return w >= 1 && w <= WEIGHT_MOST;
    }

    private static boolean isEither(int what) {
        return what == 0 || what == 1;
    }

    private static int greatestDivisor(int above, int below) {
        int a = above;
        int b = below;
        // Each round lessens a, which is never more than a river's cells.
        for (int round = 0; round <= CELL_LIMIT && a > 0; round++) {
            int rest = b % a;
            b = a;
            a = rest;
        }
        return b;
    }

    /** The letters that are written, whether they tell a river or not. */
    private static final class Text {
        final char[] letters = new char[TEXT_LIMIT];
        int length;

        boolean append(char letter) {
            if (length < 0 || length >= TEXT_LIMIT) {
                return false;
            }
            letters[length] = letter;
            length++;
            return true;
        }

        /** The letter at a place; behind the last one 0, which no item has. */
        char letterAt(int place) {
            return place >= 0 && place < length && place < TEXT_LIMIT ? letters[place] : 0;
        }
    }

    /** Reads a text, item by item, into a river. */
    private static final class Reader {
        final int[] number = new int[3];
        int place;

        /**
         * Answers where the first item with a fault begins, or NONE. With a fault the river is
         * only half told.
         */
        int readInto(Text text, River river) {
            river.reset();
            place = 0;
            boolean onlySizes = true;
            for (int item = 0; item < TEXT_LIMIT && place < text.length; item++) {
                int start = place;
                char letter = text.letterAt(start);
                boolean mayStandHere = letter != 'r' || onlySizes;
                if (!mayStandHere || !readItem(text, letter) || !tellItem(river, letter)) {
                    return start;
                }
                onlySizes = letter == 'r';
            }
            river.linkCells();
            return NONE;
        }

        private boolean readItem(Text text, char letter) {
            int numbers = numbersBehind(letter);
            place++;
            for (int i = 0; i < numbers; i++) {
                number[i] = readNumber(text);
                char sign = i == numbers - 1 ? ';' : ',';
                if (number[i] < 0 || text.letterAt(place) != sign) {
                    return false;
                }
                place++;
            }
            return numbers > 0;
        }

        private int readNumber(Text text) {
            int first = figureAt(text);
            if (first < 0) {
                return -1;
            }
            place++;
            int second = figureAt(text);
            if (second < 0) {
                return first;
            }
            place++;
            return first * 10 + second;
        }

        private int figureAt(Text text) {
            char letter = text.letterAt(place);
            return letter >= '0' && letter <= '9' ? letter - '0' : -1;
        }

        private static int numbersBehind(char letter) {
            switch (letter) {
                case 'f':
                    return 3;
                case 'r':
                case 'k':
                    return 2;
                case 'i':
                case 'd':
                case 'l':
                    return 1;
                default:
                    return 0;
            }
        }

        private boolean tellItem(River river, char letter) {
            switch (letter) {
                case 'r':
                    return river.tellSize(number[0], number[1]);
                case 'k':
                    return river.tellKind(number[0], number[1]);
                case 'f':
                    return river.tellMap(number[0], number[1], number[2]);
                case 'i':
                    return river.tellStart(number[0]);
                case 'd':
                    return river.tellCold(number[0]);
                case 'l':
                    return river.tellLaw(number[0]);
                default:
                    return false;
            }
        }
    }

    /** What a text tells: all that stays as it is while days go by. */
    private static final class River {
        int rows;
        int columns;
        int cells;
        final int[] kind = new int[CELL_LIMIT];
        final int[] map = new int[CELL_LIMIT];
        /** For each cell those beside it, side by side; NONE where the river ends. */
        final int[] beside = new int[CELL_LIMIT * SIDES];
        final int[] colds = new int[COLD_ITEMS];
        int coldsTold;
        int startInches;
        int law;

        void reset() {
            tellSize(4, 5);
            Arrays.fill(kind, CALM);
            Arrays.fill(map, NONE);
            coldsTold = 0;
            startInches = 3;
            law = LAW_MAP;
        }

        boolean tellSize(int rowsTold, int columnsTold) {
            if (!isSide(rowsTold) || !isSide(columnsTold)) {
                return false;
            }
            rows = rowsTold;
            columns = columnsTold;
            cells = rowsTold * columnsTold;
            return true;
        }

        private static boolean isSide(int n) {
            return n >= SIDE_LEAST && n <= SIDE_MOST;
        }

        boolean tellKind(int x, int kindTold) {
            if (!hasCell(x) || kindTold < 0 || kindTold >= KINDS) {
                return false;
            }
            kind[x] = kindTold;
            return true;
        }

        boolean tellMap(int f, int x, int y) {
            if (!isFamily(f) || !hasCell(x) || !hasCell(y)) {
                return false;
            }
            for (int z = 0; z < cells; z++) {
                if (isBetween(rowOf(x), rowOf(z), rowOf(y))
                        && isBetween(columnOf(x), columnOf(z), columnOf(y))) {
                    map[z] = f;
                }
            }
            return true;
        }

        private static boolean isBetween(int end, int n, int otherEnd) {
            return n >= Math.min(end, otherEnd) && n <= Math.max(end, otherEnd);
        }

        boolean tellStart(int inches) {
            if (inches < 0 || inches > START_MOST) {
                return false;
            }
            startInches = inches;
            return true;
        }

        boolean tellCold(int cold) {
            if (cold < 0 || cold > COLD_MOST || coldsTold < 0 || coldsTold >= COLD_ITEMS) {
                return false;
            }
            colds[coldsTold] = cold - COLD_ZERO;
            coldsTold++;
            return true;
        }

        boolean tellLaw(int lawTold) {
            if (lawTold < 0 || lawTold >= LAWS) {
                return false;
            }
            law = lawTold;
            return true;
        }

        void linkCells() {
            for (int x = 0; x < cells; x++) {
                int at = x * SIDES;
                int row = rowOf(x);
                int column = columnOf(x);
                beside[at] = row > 0 ? x - columns : NONE;
                beside[at + 1] = row < rows - 1 ? x + columns : NONE;
                beside[at + 2] = column > 0 ? x - 1 : NONE;
                beside[at + 3] = column < columns - 1 ? x + 1 : NONE;
            }
        }

        private int rowOf(int x) {
            return columns > 0 ? x / columns : 0;
        }

        private int columnOf(int x) {
            return columns > 0 ? x % columns : 0;
        }

        boolean hasCell(int x) {
            return x >= 0 && x < cells && x < CELL_LIMIT;
        }

        /** The cell at one of the four sides of a cell; NONE where there is none. */
        int cellBeside(int x, int side) {
            if (!hasCell(x) || side < 0 || side >= SIDES) {
                return NONE;
            }
            int y = beside[x * SIDES + side];
            return hasCell(y) ? y : NONE;
        }

        int coldOn(int day) {
            if (coldsTold < 1 || coldsTold > COLD_ITEMS) {
                return 0;
            }
            return colds[Math.floorMod(day, coldsTold)];
        }

        static int thickBehind(int kind, int inches, int cold) {
            int change = cold >= 0 ? growth(kind, cold) : -thaw(kind, -cold);
            int most = mostInches(kind);
            return Math.max(0, Math.min(most, inches + change));
        }

        static int mostInches(int kind) {
            return kind == CHANNEL ? CHANNEL_MOST : INCHES_MOST;
        }

        private static int growth(int kind, int cold) {
            switch (kind) {
                case FLOWING:
                    return Math.max(0, cold - 1);
                case CHANNEL:
                    return cold / 2;
                default:
                    return cold;
            }
        }

        private static int thaw(int kind, int warmth) {
            switch (kind) {
                case FLOWING:
                    return warmth + 1;
                case CHANNEL:
                    return warmth * 2;
                default:
                    return warmth;
            }
        }
    }

    /** The ice of one day: how thick, whose, and behind how many days. */
    private static final class Ice {
        final int[] inches = new int[CELL_LIMIT];
        /** A family, or NONE; a cell without ice is always nobody's. */
        final int[] owner = new int[CELL_LIMIT];
        /** Who had what ahead of a day: the law asks for that while the owners change. */
        final int[] ownerBefore = new int[CELL_LIMIT];
        int day;

        void startOn(River river) {
            day = 0;
            for (int x = 0; x < river.cells; x++) {
                inches[x] = Math.min(river.startInches, River.mostInches(river.kind[x]));
                owner[x] = canBeOwned(river, x) ? river.map[x] : NONE;
            }
        }

        void setTo(Ice other) {
            System.arraycopy(other.inches, 0, inches, 0, CELL_LIMIT);
            System.arraycopy(other.owner, 0, owner, 0, CELL_LIMIT);
            day = other.day;
        }

        void passDays(River river, int days) {
            for (int i = 0; i < days; i++) {
                passDay(river, river.coldOn(day));
            }
        }

        void passDay(River river, int cold) {
            System.arraycopy(owner, 0, ownerBefore, 0, CELL_LIMIT);
            for (int x = 0; x < river.cells; x++) {
                boolean wasOpen = inches[x] == 0;
                inches[x] = River.thickBehind(river.kind[x], inches[x], cold);
                if (!canBeOwned(river, x)) {
                    owner[x] = NONE;
                } else if (wasOpen) {
                    owner[x] = ownerByLaw(river, x);
                }
            }
            day++;
        }

        private boolean canBeOwned(River river, int x) {
            return inches[x] > 0 && river.kind[x] != CHANNEL;
        }

        private int ownerByLaw(River river, int x) {
            switch (river.law) {
                case LAW_MAP:
                    return river.map[x];
                case LAW_BESIDE:
                    return ownerOfMostBeside(river, x);
                default:
                    return NONE;
            }
        }

        private int ownerOfMostBeside(River river, int x) {
            int best = NONE;
            int most = 0;
            for (int f = 0; f < FAMILIES; f++) {
                int had = 0;
                for (int side = 0; side < SIDES; side++) {
                    int y = river.cellBeside(x, side);
                    if (y >= 0 && ownerBefore[y] == f) {
                        had++;
                    }
                }
                if (had > most) {
                    best = f;
                    most = had;
                }
            }
            return best;
        }

        void sawOut(int x) {
            if (x >= 0 && x < CELL_LIMIT) {
                inches[x] = 0;
                owner[x] = NONE;
            }
        }

        int bears(River river, int x) {
            if (!river.hasCell(x) || inches[x] == 0) {
                return 0;
            }
            int around = 0;
            for (int side = 0; side < SIDES; side++) {
                int y = river.cellBeside(x, side);
                if (y >= 0) {
                    around += inches[y];
                }
            }
            int all = inches[x] + around / 8;
            return river.kind[x] == REEDS ? all / 2 : all;
        }

        int tollOf(int x, int f) {
            if (x < 0 || x >= CELL_LIMIT || owner[x] == NONE) {
                return 1;
            }
            return owner[x] == f ? 0 : 3;
        }

        /** How many cells are a family's, or, with NONE, nobody's. */
        int cellsOf(River river, int f) {
            int cells = 0;
            for (int x = 0; x < river.cells; x++) {
                if (owner[x] == f) {
                    cells++;
                }
            }
            return cells;
        }

        boolean hasAny(River river, int f) {
            for (int x = 0; x < river.cells; x++) {
                if (owner[x] == f) {
                    return true;
                }
            }
            return false;
        }

        int cellsWithIce(River river) {
            int cells = 0;
            for (int x = 0; x < river.cells; x++) {
                if (inches[x] > 0) {
                    cells++;
                }
            }
            return cells;
        }

        int inchesInAll(River river) {
            int sum = 0;
            for (int x = 0; x < river.cells; x++) {
                sum += inches[x];
            }
            return sum;
        }
    }

    /** Copies of ice, one upon the other; only the uppermost can be taken. */
    private static final class Shelf {
        final int places;
        final int[][] inches;
        final int[][] owner;
        final int[] day;
        int used;

        /** Makes a shelf of at least one place. */
        Shelf(int wanted) {
            places = Math.max(1, wanted);
            inches = new int[places][CELL_LIMIT];
            owner = new int[places][CELL_LIMIT];
            day = new int[places];
        }

        /** Puts a copy on top; where all places are taken the oldest one goes. */
        void put(Ice ice) {
            if (used >= places) {
                dropOldest();
            }
            System.arraycopy(ice.inches, 0, inches[used], 0, CELL_LIMIT);
            System.arraycopy(ice.owner, 0, owner[used], 0, CELL_LIMIT);
            day[used] = ice.day;
            used++;
        }

        private void dropOldest() {
            for (int p = 1; p < places; p++) {
                System.arraycopy(inches[p], 0, inches[p - 1], 0, CELL_LIMIT);
                System.arraycopy(owner[p], 0, owner[p - 1], 0, CELL_LIMIT);
                day[p - 1] = day[p];
            }
            used = places - 1;
        }

        boolean takeInto(Ice ice) {
            if (used < 1 || used > places) {
                return false;
            }
            used--;
            System.arraycopy(inches[used], 0, ice.inches, 0, CELL_LIMIT);
            System.arraycopy(owner[used], 0, ice.owner, 0, CELL_LIMIT);
            ice.day = day[used];
            return true;
        }
    }

    /** Finds which cells of one family hang together. */
    private static final class Floes {
        final boolean[] seen = new boolean[CELL_LIMIT];
        final int[] waiting = new int[CELL_LIMIT];
        int number;
        int largest;

        /** How many cells the floe of a cell has, 0 of nobody's; its cells are the seen ones. */
        int sizeAround(River river, Ice ice, int x) {
            seeNone();
            return gather(river, ice, x);
        }

        /** Sets the number of a family's floes and the cells of the largest one. */
        void measure(River river, Ice ice, int f) {
            seeNone();
            number = 0;
            largest = 0;
            for (int x = 0; x < river.cells; x++) {
                if (ice.owner[x] == f && !seen[x]) {
                    number++;
                    largest = Math.max(largest, gather(river, ice, x));
                }
            }
        }

        int seenOnMapOf(River river, int f) {
            int cells = 0;
            for (int x = 0; x < river.cells; x++) {
                if (seen[x] && river.map[x] == f) {
                    cells++;
                }
            }
            return cells;
        }

        private void seeNone() {
            for (int x = 0; x < CELL_LIMIT; x++) {
                seen[x] = false;
            }
        }

        private int gather(River river, Ice ice, int start) {
            if (!river.hasCell(start) || ice.owner[start] == NONE) {
                return 0;
            }
            int family = ice.owner[start];
            int size = 1;
            seen[start] = true;
            waiting[0] = start;
            // A cell waits once at most, as it is seen then: there is a place for each.
            for (int i = 0; i < size && i < CELL_LIMIT; i++) {
                for (int side = 0; side < SIDES; side++) {
                    int y = river.cellBeside(waiting[i], side);
                    if (y >= 0 && !seen[y] && ice.owner[y] == family && size < CELL_LIMIT) {
                        seen[y] = true;
                        waiting[size] = y;
                        size++;
                    }
                }
            }
            return size;
        }
    }

    /** Finds the least that ways from cell to cell cost. */
    private static final class Ways {
        static final int CLOSED = -1;

        /** What a way pays on each cell, or CLOSED. */
        final int[] cost = new int[CELL_LIMIT];
        final int[] least = new int[CELL_LIMIT];
        final boolean[] settled = new boolean[CELL_LIMIT];

        /** Forgets the ways before; what each cell costs is told anew for all cells. */
        void clear() {
            Arrays.fill(least, NONE);
            for (int x = 0; x < CELL_LIMIT; x++) {
                settled[x] = false;
            }
        }

        void startAt(int x) {
            reach(x, 0);
        }

        void spread(River river) {
            for (int round = 0; round < river.cells; round++) {
                int x = nearestOpen(river);
                if (x < 0) {
                    return;
                }
                settled[x] = true;
                for (int side = 0; side < SIDES; side++) {
                    reach(river.cellBeside(x, side), least[x]);
                }
            }
        }

        /** The least that a way to a cell costs, or NONE. */
        int leastTo(int x) {
            return x >= 0 && x < CELL_LIMIT ? least[x] : NONE;
        }

        private void reach(int x, int paid) {
            if (x < 0 || x >= CELL_LIMIT || cost[x] == CLOSED) {
                return;
            }
            int sum = paid + cost[x];
            if (least[x] == NONE || sum < least[x]) {
                least[x] = sum;
            }
        }

        private int nearestOpen(River river) {
            int best = NONE;
            for (int x = 0; x < river.cells; x++) {
                if (!settled[x] && least[x] != NONE && (best < 0 || least[x] < least[best])) {
                    best = x;
                }
            }
            return best;
        }
    }
}
