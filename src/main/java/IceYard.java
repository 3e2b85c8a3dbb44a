import java.util.Arrays;

/**
 * Blocks on ice: a yard told in a text, pushes led to their end, and what can be asked of them.
 * The words in capitals are those of the document. No call throws. All rows are made by the constructor
 * and used again, so that no call makes an object: what a run makes is counted.
 */
public final class IceYard {
    public static final int UNKNOWN = -1, OUTSIDE = -2, STATE = -3, FULL = -4, SPENT = -5, GONE = -6, NONE = -9;
    public static final long LOST = Long.MIN_VALUE;

    private static final int NULL = 1, CAST = 2, INDEX = 3, SIZE = 4;
    private static final int LOG = 1, SLEDGE = 2;
    private static final int MOST_CELLS = 36, MOST_BLOCKS = 6, MOST_CRACKS = 4, MOST_PUSHES = 200;
    private static final int DIRECTIONS = 4, LANES = 3;

    // A YARD as it is fits one long: six bits a BLOCK for its place, then a bit for each FILLED CRACK.
    // A place is a CELL, or AT_GONE, or AT_HOME and the GATE.
    private static final int PLACE_BITS = 6, AT_GONE = MOST_CELLS, AT_HOME = MOST_CELLS + 1;
    private static final int FILLED_SHIFT = PLACE_BITS * MOST_BLOCKS;
    private static final long PLACE_MASK = 63L, NO_YARD = -1L;

    private final Ground ground;
    private final Slider slider;
    private final Search search;
    private final Game game;
    private final RowCount rowCount;
    private final SandPlan sandPlan;
    private final Sheet[] sheets;
    private final long[] yardsBefore;
    private final long[] images;
    private long now;
    private int pushes;
    private int trace;
    private int fault;

    public IceYard() {
        ground = new Ground();
        slider = new Slider(ground);
        search = new Search(ground, slider);
        game = new Game(ground, slider);
        rowCount = new RowCount(ground, slider);
        sandPlan = new SandPlan(ground, slider);
        sheets = new Sheet[] {new Sheet(), new Sheet(), new Sheet(), new Sheet()};
        yardsBefore = new long[MOST_PUSHES];
        images = new long[] {NO_YARD, NO_YARD, NO_YARD};
    }

    // ---- 1 the yard

    public int yard(int sheet, int lane, int i, int n) {
        fault = 0;
        Sheet s = sheetAt(sheet);
        if (s == null) {
            return UNKNOWN;
        }
        if (!isLane(lane)) {
            return OUTSIDE;
        }
        int wrong = s.faultTakenAs(lane);
        if (wrong == 0 && n < 0) {
            wrong = SIZE;
        }
        if (wrong == 0 && !s.hasCells(i, n)) {
            wrong = INDEX;
        }
        if (wrong != 0) {
            return faulty(wrong);
        }
        int place = Text.firstFault(s, i, n);
        if (place >= 0) {
            return -100 - place;
        }
        takeYard(s, i, n);
        return ground.blocks;
    }

    private void takeYard(Sheet codes, int from, int n) {
        ground.lay(codes, from, n);
        slider.forget();
        now = ground.firstYard();
        pushes = 0;
        Arrays.fill(images, NO_YARD);
    }

    public int at(int c) {
        if (c < 0 || c >= ground.cells()) {
            return UNKNOWN;
        }
        for (int k = 0; k < ground.blocks; k++) {
            if (placeOf(now, k) == c) {
                return 10 + k;
            }
        }
        return ground.signAt(c, now);
    }

    public int ofBlock(int k, int what) {
        if (!ground.hasBlock(k)) {
            return UNKNOWN;
        }
        if (what == 0) {
            return ground.kindOf(k);
        }
        return what == 1 ? whereIs(now, k) : OUTSIDE;
    }

    // ---- 2 pushes

    public int push(int k, int d) {
        int refusal = refusalOfPush(k, d);
        if (refusal != 0) {
            return refusal;
        }
        if (pushes < 0 || pushes >= MOST_PUSHES) {
            return FULL;
        }
        yardsBefore[pushes] = now;
        pushes++;
        now = slider.after;
        return whereIs(now, k);
    }

    public int would(int k, int d) {
        int refusal = refusalOfPush(k, d);
        return refusal != 0 ? refusal : whereIs(slider.after, k);
    }

    public long tracks(int k, int d) {
        return refusalOfPush(k, d) != 0 ? LOST : slider.tracks;
    }

    /** 0 where there is nothing to refuse: then the slider holds what the PUSH does. */
    private int refusalOfPush(int k, int d) {
        if (!ground.hasBlock(k)) {
            return UNKNOWN;
        }
        if (d < 0 || d >= DIRECTIONS) {
            return OUTSIDE;
        }
        return slider.goes(now, k, d) ? 0 : STATE;
    }

    public int undo(int k) {
        if (k < 0 || k > pushes) {
            return OUTSIDE;
        }
        int left = pushes - k;
        if (k > 0 && left >= 0 && left < yardsBefore.length) {
            now = yardsBefore[left];
        }
        pushes = left;
        return left;
    }

    public int keep(int i) {
        if (i < 0 || i >= images.length) {
            return UNKNOWN;
        }
        if (ground.cells() == 0) {
            return STATE;
        }
        images[i] = now;
        return 1;
    }

    public int back(int i) {
        if (i < 0 || i >= images.length) {
            return UNKNOWN;
        }
        if (images[i] == NO_YARD) {
            return STATE;
        }
        now = images[i];
        pushes = 0;
        return 1;
    }

    // ---- 3 fewest, games

    public int fewest(int gate, int q) {
        if (!isGate(gate) || q < -1) {
            return UNKNOWN;
        }
        int length = search.fewestPushes(now, gate);
        return length < 0 || q == -1 ? length : search.pushAt(q);
    }

    public int won(int boy) {
        return isGate(boy) ? game.leastTurns(now, boy) : UNKNOWN;
    }

    public int first(int boy) {
        if (!isGate(boy)) {
            return UNKNOWN;
        }
        game.leastTurns(now, boy);
        return game.winning;
    }

    // ---- 4 tracks, sand, thaw

    public int rows(int n, long tracks, int q) {
        if (n < 1 || n > RowCount.LONGEST || tracks < 0 || (tracks >>> ground.cells()) != 0) {
            return OUTSIDE;
        }
        if (q < -1 || q >= n) {
            return UNKNOWN;
        }
        int count = rowCount.count(now, n, tracks);
        if (q == -1) {
            return count;
        }
        return count == 0 ? NONE : rowCount.pushAt(q);
    }

    public int sand(int k, int gate, int n, int q) {
        if (!ground.hasBlock(k) || !isGate(gate) || q < -1 || q > 1) {
            return UNKNOWN;
        }
        if (n < 1 || n > 2) {
            return OUTSIDE;
        }
        int count = sandPlan.fewestCells(now, k, gate, n);
        if (count < 0 || q == -1) {
            return count;
        }
        return q < count ? sandPlan.cell : NONE;
    }

    public int thaw(int hour) {
        if (hour < 0 || hour > 20) {
            return OUTSIDE;
        }
        int melted = Math.min(hour / 2, ground.high);
        int firstMelted = (ground.high - melted) * ground.wide;
        int lost = 0;
        for (int k = 0; k < ground.blocks; k++) {
            int place = placeOf(now, k);
            if (place < MOST_CELLS && place >= firstMelted) {
                lost |= 1 << k;
            }
        }
        return lost;
    }

    // ---- 5 sheets, parts

    public int sheet(int k, int lane, int n) {
        fault = 0;
        Sheet s = sheetAt(k);
        if (s == null) {
            return UNKNOWN;
        }
        if (!isLane(lane) || n > Sheet.MOST) {
            return OUTSIDE;
        }
        if (n < 0) {
            return faulty(SIZE);
        }
        s.renew(lane, n);
        return 1;
    }

    public int lose(int k) {
        Sheet s = sheetAt(k);
        if (s == null) {
            return UNKNOWN;
        }
        if (s.hasNothing()) {
            return 0;
        }
        s.empty();
        return 1;
    }

    public int put(int k, int i, int v) {
        fault = 0;
        Sheet s = sheetAt(k);
        if (s == null) {
            return UNKNOWN;
        }
        if (s.hasNothing()) {
            return faulty(NULL);
        }
        if (!s.hasCell(i)) {
            return faulty(INDEX);
        }
        s.write(i, v);
        return 1;
    }

    public long cell(int k, int i, int lane) {
        fault = 0;
        Sheet s = sheetAt(k);
        if (s == null || !isLane(lane)) {
            return LOST;
        }
        int wrong = s.faultTakenAs(lane);
        if (wrong == 0 && !s.hasCell(i)) {
            wrong = INDEX;
        }
        if (wrong != 0) {
            faulty(wrong);
            return LOST;
        }
        return s.read(i);
    }

    public int copy(int k, int i, int other, int j, int n) {
        fault = 0;
        Sheet source = sheetAt(k);
        Sheet target = sheetAt(other);
        if (source == null || target == null) {
            return UNKNOWN;
        }
        if (source.hasNothing() || target.hasNothing()) {
            return faulty(NULL);
        }
        if (source.lane != target.lane) {
            return faulty(CAST);
        }
        if (!source.hasCells(i, n) || !target.hasCells(j, n)) {
            return faulty(INDEX);
        }
        System.arraycopy(source.cells, i, target.cells, j, n);
        return n;
    }

    public int tell(int k) {
        if (!ground.hasBlock(k)) {
            return UNKNOWN;
        }
        switch (ground.kindOf(k)) {
            case SLEDGE:
                return tellSledge(k);
            case LOG:
                return tellLog(k);
            default:
                return tellBlock(k);
        }
    }

    private int tellBlock(int k) {
        leaveTrace(1);
        return ground.startOf(k);
    }

    private int tellLog(int k) {
        leaveTrace(2);
        return tellBlock(k) + 100;
    }

    private int tellSledge(int k) {
        leaveTrace(3);
        int asLog = tellLog(k);
        return asLog + tellBlock(k);
    }

    public int kick(int k) {
        if (!ground.hasBlock(k)) {
            return UNKNOWN;
        }
        boolean ownBody = ground.kindOf(k) == SLEDGE;
        leaveTrace(ownBody ? 5 : 4);
        return ownBody ? 60 : k;
    }

    private void leaveTrace(int number) {
        trace = 31 * trace + number;
    }

    public int as(int k, int kind) {
        fault = 0;
        if (!ground.hasBlock(k)) {
            return UNKNOWN;
        }
        if (kind < 0 || kind > SLEDGE) {
            return OUTSIDE;
        }
        return ground.kindOf(k) < kind ? faulty(CAST) : 1;
    }

    public int trace() {
        return trace;
    }

    public int fault() {
        return fault;
    }

    public int many(int what) {
        switch (what) {
            case 0:
                return ground.high;
            case 1:
                return ground.wide;
            case 2:
                return ground.blocks;
            case 3:
                return Long.bitCount(ground.openCracks(now));
            case 4:
                return pushes;
            default:
                return OUTSIDE;
        }
    }

    private int faulty(int which) {
        fault = which;
        return -10 - which;
    }

    private Sheet sheetAt(int k) {
        return k < 0 || k >= sheets.length ? null : sheets[k];
    }

    private static boolean isLane(int lane) {
        return lane >= 0 && lane < LANES;
    }

    /** Also of a boy: each has the GATE of his number. */
    private static boolean isGate(int gate) {
        return gate == 0 || gate == 1;
    }

    private static int placeOf(long yard, int k) {
        return (int) ((yard >>> (PLACE_BITS * k)) & PLACE_MASK);
    }

    private static long withPlace(long yard, int k, int place) {
        int shift = PLACE_BITS * k;
        return (yard & ~(PLACE_MASK << shift)) | ((long) place << shift);
    }

    private static int whereIs(long yard, int k) {
        int place = placeOf(yard, k);
        if (place < MOST_CELLS) {
            return place;
        }
        return place == AT_GONE ? GONE : -20 - (place - AT_HOME);
    }

    private static boolean has(long set, int cell) {
        return ((set >>> cell) & 1L) != 0;
    }

    private static int pushNumber(int k, int d) {
        return 10 * k + d;
    }

    /** What a TEXT may be. */
    private static final class Text {
        static final int HEAD = 3;

        /** -1 where the n codes from a place on are a TEXT. */
        static int firstFault(Sheet codes, int from, int n) {
            int high = 3;
            int wide = 3;
            int cracks = 0;
            int blocks = 0;
            for (int p = 0; p < n; p++) {
                int code = codes.read(from + p);
                if (!fits(code, p, high, wide)) {
                    return p;
                }
                if (p == 1) {
                    high = code - '0';
                } else if (p == 2) {
                    wide = code - '0';
                } else if (code == 'c') {
                    cracks++;
                } else if (kindOfSign(code) >= 0) {
                    blocks++;
                }
                if (cracks > MOST_CRACKS || blocks > MOST_BLOCKS) {
                    return p;
                }
            }
            return n == HEAD + high * (wide + 1) ? -1 : n;
        }

        private static boolean fits(int code, int p, int high, int wide) {
            if (p == 0) {
                return code == 'i';
            }
            if (p < HEAD) {
                return code >= '3' && code <= '6';
            }
            if (p >= HEAD + high * (wide + 1)) {
                return false;
            }
            return opensRow(p, wide) ? code == ';' : isSign(code);
        }

        static boolean opensRow(int p, int wide) {
            return wide >= 0 && (p - HEAD) % (wide + 1) == 0;
        }

        private static boolean isSign(int code) {
            return code == '.' || code == '#' || code == 's' || code == 'c'
                || code == 'a' || code == 'b' || kindOfSign(code) >= 0;
        }

        static int kindOfSign(int code) {
            switch (code) {
                case 'o':
                    return 0;
                case 'l':
                    return LOG;
                case 'd':
                    return SLEDGE;
                default:
                    return -1;
            }
        }
    }

    /** What no PUSH changes: the CELLS as the TEXT has them, and the BLOCKS' kinds and first CELLS. */
    private static final class Ground {
        private final int[] kinds = new int[MOST_BLOCKS];
        private final int[] starts = new int[MOST_BLOCKS];
        private final int[] cracks = new int[MOST_CRACKS];
        private final int[] ways = new int[MOST_CELLS * DIRECTIONS];
        int high;
        int wide;
        int blocks;
        private int crackCount;
        private long walls;
        long sand;
        long gate0;
        long gate1;
        long ice;

        int cells() {
            return high * wide;
        }

        boolean hasBlock(int k) {
            return k >= 0 && k < blocks && k < MOST_BLOCKS;
        }

        int kindOf(int k) {
            return hasBlock(k) ? kinds[k] : 0;
        }

        int startOf(int k) {
            return hasBlock(k) ? starts[k] : 0;
        }

        /** The next CELL towards d, -1 where the YARD ends or a WALL is: both stop a BLOCK alike. */
        int wayFrom(int cell, int d) {
            int i = cell * DIRECTIONS + d;
            return i < 0 || i >= ways.length ? -1 : ways[i];
        }

        /** The codes are a TEXT, as Text.firstFault has told. */
        void lay(Sheet codes, int from, int n) {
            high = codes.read(from + 1) - '0';
            wide = codes.read(from + 2) - '0';
            blocks = 0;
            crackCount = 0;
            walls = 0L;
            sand = 0L;
            gate0 = 0L;
            gate1 = 0L;
            ice = 0L;
            int cell = 0;
            for (int p = Text.HEAD; p < n; p++) {
                if (!Text.opensRow(p, wide)) {
                    layCell(cell, codes.read(from + p));
                    cell++;
                }
            }
            layWays();
        }

        private void layCell(int cell, int code) {
            long bit = 1L << cell;
            switch (code) {
                case '#':
                    walls |= bit;
                    break;
                case 's':
                    sand |= bit;
                    break;
                case 'a':
                    gate0 |= bit;
                    break;
                case 'b':
                    gate1 |= bit;
                    break;
                case 'c':
                    layCrack(cell);
                    break;
                default:
                    ice |= bit;
                    layBlock(cell, Text.kindOfSign(code));
                    break;
            }
        }

        private void layCrack(int cell) {
            if (crackCount < MOST_CRACKS) {
                cracks[crackCount] = cell;
                crackCount++;
            }
        }

        private void layBlock(int cell, int kind) {
            if (kind >= 0 && blocks < MOST_BLOCKS) {
                kinds[blocks] = kind;
                starts[blocks] = cell;
                blocks++;
            }
        }

        private void layWays() {
            for (int y = 0; y < high; y++) {
                for (int x = 0; x < wide; x++) {
                    int cell = y * wide + x;
                    layWay(cell, 0, y > 0, cell - wide);
                    layWay(cell, 1, x < wide - 1, cell + 1);
                    layWay(cell, 2, y < high - 1, cell + wide);
                    layWay(cell, 3, x > 0, cell - 1);
                }
            }
        }

        private void layWay(int cell, int d, boolean inside, int next) {
            int i = cell * DIRECTIONS + d;
            if (i >= 0 && i < ways.length) {
                ways[i] = inside && !has(walls, next) ? next : -1;
            }
        }

        long firstYard() {
            long yard = 0L;
            for (int k = 0; k < blocks; k++) {
                yard = withPlace(yard, k, startOf(k));
            }
            return yard;
        }

        long openCracks(long yard) {
            long open = 0L;
            for (int j = 0; j < crackCount && j < MOST_CRACKS; j++) {
                if (!has(yard, FILLED_SHIFT + j)) {
                    open |= 1L << cracks[j];
                }
            }
            return open;
        }

        long fillCrack(long yard, int cell) {
            for (int j = 0; j < crackCount && j < MOST_CRACKS; j++) {
                if (cracks[j] == cell) {
                    return yard | (1L << (FILLED_SHIFT + j));
                }
            }
            return yard;
        }

        /** What a CELL is in which no BLOCK lies, as at() tells it. */
        int signAt(int cell, long yard) {
            if (has(walls, cell)) {
                return 1;
            }
            if (has(sand, cell)) {
                return 2;
            }
            if (has(openCracks(yard), cell)) {
                return 3;
            }
            if (has(gate0, cell)) {
                return 4;
            }
            return has(gate1, cell) ? 5 : 0;
        }
    }

    /** Leads one PUSH to its end, from a YARD that it leaves as it is; the fields tell what came of it. */
    private static final class Slider {
        private final Ground ground;
        private final int[] places = new int[MOST_BLOCKS];
        private long loaded = NO_YARD;
        private long occupied;
        private long openCracks;
        /** SAND that is put on trial, besides that of the YARD. */
        long trialSand;
        long after;
        long tracks;
        /** By one PUSH only the BLOCK that was struck last can leave the YARD, so one comes HOME at most. */
        int homeBlock;
        int homeGate;

        Slider(Ground ground) {
            this.ground = ground;
        }

        /** What was made out of a YARD does not hold on another ground. */
        void forget() {
            loaded = NO_YARD;
        }

        /** Whether it is a PUSH: the BLOCK lies in the YARD, and some BLOCK goes a CELL at least. */
        boolean goes(long yard, int k, int d) {
            if (yard != loaded) {
                load(yard);
            }
            after = yard;
            tracks = 0L;
            homeBlock = -1;
            homeGate = -1;
            if (!ground.hasBlock(k) || places[k] >= MOST_CELLS) {
                return false;
            }
            int mover = k;
            // Each BLOCK that is struck lies farther on, so none moves twice.
            for (int moved = 0; moved < MOST_BLOCKS && mover >= 0; moved++) {
                mover = slideOne(mover, d);
            }
            return tracks != 0L;
        }

        private void load(long yard) {
            occupied = 0L;
            for (int k = 0; k < ground.blocks && k < MOST_BLOCKS; k++) {
                int place = placeOf(yard, k);
                places[k] = place;
                if (place < MOST_CELLS) {
                    occupied |= 1L << place;
                }
            }
            openCracks = ground.openCracks(yard);
            loaded = yard;
        }

        /** The BLOCK that slides next, -1 if none does. */
        private int slideOne(int mover, int d) {
            if (!ground.hasBlock(mover)) {
                return -1;
            }
            int kind = ground.kindOf(mover);
            int cell = places[mover];
            long stops = kind == SLEDGE ? 0L : ground.sand | trialSand;
            long ends = openCracks | ground.gate0 | ground.gate1;
            for (int step = 0; step < MOST_CELLS; step++) {
                int next = ground.wayFrom(cell, d);
                if (next < 0 || has(occupied, next)) {
                    after = withPlace(after, mover, cell);
                    return next >= 0 && kind >= LOG ? blockIn(next) : -1;
                }
                cell = next;
                tracks |= 1L << cell;
                if (has(ends, cell)) {
                    leave(mover, cell);
                    return -1;
                }
                if (has(stops, cell)) {
                    after = withPlace(after, mover, cell);
                    return -1;
                }
            }
            return -1;
        }

        private void leave(int mover, int cell) {
            if (has(openCracks, cell)) {
                after = ground.fillCrack(withPlace(after, mover, AT_GONE), cell);
                return;
            }
            homeBlock = mover;
            homeGate = has(ground.gate0, cell) ? 0 : 1;
            after = withPlace(after, mover, AT_HOME + homeGate);
        }

        private int blockIn(int cell) {
            for (int k = 0; k < ground.blocks && k < MOST_BLOCKS; k++) {
                if (places[k] == cell) {
                    return k;
                }
            }
            return -1;
        }
    }

    /** FEWEST: the YARDS in the order in which they are come to, each with the one that it came from. */
    private static final class Search {
        private static final int MOST_YARDS = 1500, SLOTS = 4096, HASH_SHIFT = 52;
        private static final long HASH_FACTOR = 0x9E3779B97F4A7C15L;

        private final Ground ground;
        private final Slider slider;
        private final long[] yards = new long[MOST_YARDS];
        private final int[] origins = new int[MOST_YARDS];
        private final int[] numbers = new int[MOST_YARDS];
        private final int[] row = new int[MOST_YARDS];
        /** In a slot: 1 and the index of a YARD; 0 if it is free. */
        private final int[] slots = new int[SLOTS];
        private int count;
        private int length;

        Search(Ground ground, Slider slider) {
            this.ground = ground;
            this.slider = slider;
        }

        /** How many PUSHES, or NONE, or SPENT. */
        int fewestPushes(long start, int gate) {
            Arrays.fill(slots, 0);
            count = 0;
            length = 0;
            note(start, -1, 0);
            for (int i = 0; i < count && i < MOST_YARDS; i++) {
                int found = goOnFrom(i, gate);
                if (found != 0) {
                    return found;
                }
            }
            return NONE;
        }

        int pushAt(int q) {
            return q >= 0 && q < length && q < row.length ? row[q] : NONE;
        }

        /** 0 if the search has to go on. */
        private int goOnFrom(int i, int gate) {
            if (i < 0 || i >= MOST_YARDS) {
                return 0;
            }
            long yard = yards[i];
            for (int k = 0; k < ground.blocks; k++) {
                for (int d = 0; d < DIRECTIONS; d++) {
                    if (!slider.goes(yard, k, d)) {
                        continue;
                    }
                    if (slider.homeGate == gate) {
                        writeRow(i, pushNumber(k, d));
                        return length;
                    }
                    if (!note(slider.after, i, pushNumber(k, d))) {
                        return SPENT;
                    }
                }
            }
            return 0;
        }

        /** False if the YARD is new, and one too many. */
        private boolean note(long yard, int origin, int number) {
            int slot = slotOf(yard);
            if (slot < 0 || slot >= SLOTS) {
                return false;
            }
            if (slots[slot] != 0) {
                return true;
            }
            if (count < 0 || count >= MOST_YARDS) {
                return false;
            }
            yards[count] = yard;
            origins[count] = origin;
            numbers[count] = number;
            count++;
            slots[slot] = count;
            return true;
        }

        /** The slot of a YARD, or a free one for it; there are more slots than YARDS. */
        private int slotOf(long yard) {
            int slot = (int) ((yard * HASH_FACTOR) >>> HASH_SHIFT);
            for (int tried = 0; tried < SLOTS; tried++) {
                int at = (slot + tried) & (SLOTS - 1);
                int i = slots[at] - 1;
                if (i < 0 || i >= MOST_YARDS || yards[i] == yard) {
                    return at;
                }
            }
            return -1;
        }

        private void writeRow(int last, int number) {
            length = 1;
            int i = last;
            for (int steps = 0; steps < MOST_YARDS && i > 0 && i < MOST_YARDS; steps++) {
                length++;
                i = origins[i];
            }
            int q = length - 1;
            i = last;
            int push = number;
            for (int steps = 0; steps < MOST_YARDS && q >= 0 && q < row.length; steps++) {
                row[q] = push;
                q--;
                if (i > 0 && i < MOST_YARDS) {
                    push = numbers[i];
                    i = origins[i];
                }
            }
        }
    }

    /**
     * The GAME. Either boy may PUSH any BLOCK: where one can't PUSH, none ever can,
     * so that nothing is WON by passing.
     */
    private static final class Game {
        private static final int MOST_TURNS = 4;

        private final Ground ground;
        private final Slider slider;
        /** The PUSH by which it is won in the least turns, as leastTurns() found it; NONE. */
        int winning = NONE;

        Game(Ground ground, Slider slider) {
            this.ground = ground;
            this.slider = slider;
        }

        int leastTurns(long yard, int boy) {
            for (int turns = 1; turns <= MOST_TURNS; turns++) {
                winning = winningPush(yard, boy, turns);
                if (winning >= 0) {
                    return turns;
                }
            }
            return NONE;
        }

        /** The first PUSH by which the boy, whose turn it is, wins within so many turns. */
        private int winningPush(long yard, int boy, int turns) {
            if (turns < 1 || turns > MOST_TURNS) {
                return NONE;
            }
            for (int k = 0; k < ground.blocks; k++) {
                for (int d = 0; d < DIRECTIONS; d++) {
                    if (!slider.goes(yard, k, d)) {
                        continue;
                    }
                    int home = slider.homeGate;
                    if (home == boy || home < 0 && turns > 1 && winsWhateverComes(slider.after, boy, turns - 1)) {
                        return pushNumber(k, d);
                    }
                }
            }
            return NONE;
        }

        /** Whether the boy wins within so many turns whatever the other one, whose turn it is, does. */
        private boolean winsWhateverComes(long yard, int boy, int turns) {
            boolean canPush = false;
            for (int k = 0; k < ground.blocks; k++) {
                for (int d = 0; d < DIRECTIONS; d++) {
                    if (!slider.goes(yard, k, d)) {
                        continue;
                    }
                    canPush = true;
                    int home = slider.homeGate;
                    if (home == boy) {
                        continue;
                    }
                    if (home >= 0 || winningPush(slider.after, boy, turns - 1) < 0) {
                        return false;
                    }
                }
            }
            return canPush;
        }
    }

    /** ROWS of PUSHES that leave TRACKS just on the CELLS told. */
    private static final class RowCount {
        static final int LONGEST = 3;

        private final Ground ground;
        private final Slider slider;
        private final int[] row = new int[LONGEST];
        private final int[] firstRow = new int[LONGEST];
        private long told;
        private int found;

        RowCount(Ground ground, Slider slider) {
            this.ground = ground;
            this.slider = slider;
        }

        int count(long yard, int n, long tracks) {
            told = tracks;
            found = 0;
            walk(yard, 0, Math.min(n, LONGEST), 0L);
            return found;
        }

        int pushAt(int q) {
            return q >= 0 && q < LONGEST ? firstRow[q] : NONE;
        }

        private void walk(long yard, int depth, int n, long left) {
            if (depth < 0 || depth >= n || depth >= LONGEST) {
                return;
            }
            for (int k = 0; k < ground.blocks; k++) {
                for (int d = 0; d < DIRECTIONS; d++) {
                    if (!slider.goes(yard, k, d)) {
                        continue;
                    }
                    long tracks = left | slider.tracks;
                    if ((tracks & ~told) != 0) {
                        continue;
                    }
                    row[depth] = pushNumber(k, d);
                    if (depth + 1 < n) {
                        walk(slider.after, depth + 1, n, tracks);
                    } else if (tracks == told) {
                        countRow(n);
                    }
                }
            }
        }

        private void countRow(int n) {
            if (found == 0) {
                for (int q = 0; q < n && q < LONGEST; q++) {
                    firstRow[q] = row[q];
                }
            }
            found++;
        }
    }

    /**
     * SAND to be put. Two CELLS never do what one can't: a PUSH that SAND stops has come to one CELL of it,
     * and there ends; the PUSH that brings the BLOCK HOME is stopped by none. So with two PUSHES at most,
     * one CELL counts at most.
     */
    private static final class SandPlan {
        private final Ground ground;
        private final Slider slider;
        /** The CELL, if it is one. */
        int cell;

        SandPlan(Ground ground, Slider slider) {
            this.ground = ground;
            this.slider = slider;
        }

        int fewestCells(long yard, int k, int gate, int n) {
            if (placeOf(yard, k) >= MOST_CELLS) {
                return NONE;
            }
            if (bringsHome(yard, k, gate, n)) {
                return 0;
            }
            long free = freeIce(yard);
            int count = NONE;
            for (int c = 0; c < ground.cells() && c < MOST_CELLS && count == NONE; c++) {
                slider.trialSand = 1L << c;
                if (has(free, c) && bringsHome(yard, k, gate, n)) {
                    cell = c;
                    count = 1;
                }
            }
            slider.trialSand = 0L;
            return count;
        }

        private long freeIce(long yard) {
            long free = ground.ice;
            for (int j = 0; j < ground.blocks; j++) {
                int place = placeOf(yard, j);
                if (place < MOST_CELLS) {
                    free &= ~(1L << place);
                }
            }
            return free;
        }

        private boolean bringsHome(long yard, int k, int gate, int n) {
            if (n < 1) {
                return false;
            }
            for (int b = 0; b < ground.blocks; b++) {
                for (int d = 0; d < DIRECTIONS; d++) {
                    if (!slider.goes(yard, b, d)) {
                        continue;
                    }
                    if (slider.homeBlock == k && slider.homeGate == gate) {
                        return true;
                    }
                    if (n > 1 && bringsHome(slider.after, k, gate, n - 1)) {
                        return true;
                    }
                }
            }
            return false;
        }
    }

    /** A SHEET: its cells are made once, and serve for every row that it gets; each is cut to the row's LANE. */
    private static final class Sheet {
        static final int MOST = 60;
        private static final int NO_LANE = -1;

        final int[] cells = new int[MOST];
        int lane = NO_LANE;
        private int count;

        boolean hasNothing() {
            return lane == NO_LANE;
        }

        void empty() {
            lane = NO_LANE;
            count = 0;
        }

        void renew(int newLane, int n) {
            lane = newLane;
            count = n;
            Arrays.fill(cells, 0);
        }

        /** The FAULT of taking it as a row of a LANE, 0 if it is one. */
        int faultTakenAs(int asLane) {
            if (hasNothing()) {
                return NULL;
            }
            return lane == asLane ? 0 : CAST;
        }

        boolean hasCell(int i) {
            return i >= 0 && i < count && i < MOST;
        }

        boolean hasCells(int i, int n) {
            return i >= 0 && n >= 0 && i <= count && n <= count - i;
        }

        int read(int i) {
            return hasCell(i) ? cells[i] : 0;
        }

        void write(int i, int v) {
            if (hasCell(i)) {
                cells[i] = cut(v);
            }
        }

        private int cut(int v) {
            switch (lane) {
                case 0:
                    return (byte) v;
                case 1:
                    return (short) v;
                default:
                    return v;
            }
        }
    }
}
