import java.util.ArrayList;
import java.util.Arrays;
import java.util.HashMap;
import java.util.List;
import java.util.Map;

/**
 * The whole face a second time, over PlainYard: each call is a row of ifs in the order in which the call's line
 * in the document tells its REFUSALS and FAULTS. What is asked often of the same yard is worked out once.
 */
final class PlainIceYard {
    static final int UNKNOWN = -1, OUTSIDE = -2, STATE = -3, FULL = -4, NONE = -9;
    static final long LOST = Long.MIN_VALUE;
    private static final int NULL = 1, CAST = 2, INDEX = 3, SIZE = 4;
    private static final Map<String, int[]> WORKED_OUT = new HashMap<>();
    private static final Map<String, List<long[]>> ALL_ROWS = new HashMap<>();

    private final int[][] sheets = new int[4][];
    private final int[] lanes = new int[4];
    private final List<PlainYard> before = new ArrayList<>();
    private final PlainYard[] images = new PlainYard[3];
    private PlainYard yard;
    private String text = "";
    private int[] starts = new int[0];
    private int trace;
    private int fault;

    /** -1 if the codes are a TEXT. */
    static int firstFault(int[] codes) {
        for (int p = 0; p < codes.length; p++) {
            if (!goesOn(codes, p + 1)) {
                return p;
            }
        }
        boolean ends = codes.length > 2 && codes.length == 3 + (codes[1] - 48) * (1 + codes[2] - 48);
        return ends ? -1 : codes.length;
    }

    /** Whether some TEXT begins with so many of the codes. */
    private static boolean goesOn(int[] codes, int count) {
        int cracks = 0;
        int blocks = 0;
        for (int p = 0; p < count; p++) {
            int code = codes[p];
            if (p == 0 && code != 105 || (p == 1 || p == 2) && (code < 51 || code > 54)) {
                return false;
            }
            if (p > 2) {
                int row = (p - 3) / (codes[2] - 47);
                int column = (p - 3) % (codes[2] - 47) - 1;
                boolean sign = column >= 0 && ".#scabold".chars().anyMatch(s -> s == code);
                if (row >= codes[1] - 48 || !(sign || column < 0 && code == 59)) {
                    return false;
                }
                cracks += code == 99 ? 1 : 0;
                blocks += code == 111 || code == 108 || code == 100 ? 1 : 0;
            }
        }
        return cracks <= 4 && blocks <= 6;
    }

    int yard(int sheet, int lane, int i, int n) {
        fault = 0;
        if (sheet < 0 || sheet > 3) {
            return UNKNOWN;
        }
        if (lane < 0 || lane > 2) {
            return OUTSIDE;
        }
        if (sheets[sheet] != null && lanes[sheet] != lane) {
            return faulty(CAST);
        }
        if (sheets[sheet] == null) {
            return faulty(NULL);
        }
        if (n < 0) {
            return faulty(SIZE);
        }
        if (i < 0 || (long) i + n > sheets[sheet].length) {
            return faulty(INDEX);
        }
        int[] codes = Arrays.copyOfRange(sheets[sheet], i, i + n);
        int place = firstFault(codes);
        if (place >= 0) {
            return -100 - place;
        }
        text = new String(codes, 0, n);
        yard = new PlainYard(text);
        starts = yard.where.clone();
        before.clear();
        Arrays.fill(images, null);
        return blocks();
    }

    private int faulty(int which) {
        fault = which;
        return -10 - which;
    }

    private int cells() {
        return yard == null ? 0 : yard.signs.length;
    }

    private int blocks() {
        return yard == null ? 0 : yard.kinds.length;
    }

    private boolean isBlock(int k) {
        return k >= 0 && k < blocks();
    }

    int at(int c) {
        return c < 0 || c >= cells() ? UNKNOWN : yard.at(c);
    }

    int ofBlock(int k, int what) {
        if (!isBlock(k)) {
            return UNKNOWN;
        }
        if (what != 0 && what != 1) {
            return OUTSIDE;
        }
        return what == 0 ? yard.kinds[k] : yard.where[k];
    }

    int push(int k, int d) {
        int answer = would(k, d);
        if (answer == UNKNOWN || answer == OUTSIDE || answer == STATE) {
            return answer;
        }
        if (before.size() == 200) {
            return FULL;
        }
        before.add(yard);
        yard = yard.push(k, d).yard;
        return answer;
    }

    int would(int k, int d) {
        if (!isBlock(k)) {
            return UNKNOWN;
        }
        if (d < 0 || d > 3) {
            return OUTSIDE;
        }
        PlainYard.Pushed p = yard.push(k, d);
        return p == null ? STATE : p.yard.where[k];
    }

    long tracks(int k, int d) {
        if (!isBlock(k) || d < 0 || d > 3) {
            return LOST;
        }
        PlainYard.Pushed p = yard.push(k, d);
        return p == null ? LOST : PlainYard.bits(p.tracks);
    }

    int undo(int k) {
        if (k < 0 || k > before.size()) {
            return OUTSIDE;
        }
        for (int u = 0; u < k; u++) {
            yard = before.remove(before.size() - 1);
        }
        return before.size();
    }

    int keep(int i) {
        if (i < 0 || i > 2) {
            return UNKNOWN;
        }
        if (yard == null) {
            return STATE;
        }
        images[i] = yard;
        return 1;
    }

    int back(int i) {
        if (i < 0 || i > 2) {
            return UNKNOWN;
        }
        if (images[i] == null) {
            return STATE;
        }
        yard = images[i];
        before.clear();
        return 1;
    }

    int fewest(int gate, int q) {
        if (gate != 0 && gate != 1 || q < -1) {
            return UNKNOWN;
        }
        if (yard == null) {
            return NONE;
        }
        int[] row = WORKED_OUT.computeIfAbsent(name("fewest", gate), n -> yard.fewest(gate));
        if (row[0] < 0) {
            return row[0];
        }
        return q == -1 ? row.length : q < row.length ? row[q] : NONE;
    }

    private String name(String what, int... args) {
        return text + yard.alike() + what + Arrays.toString(args);
    }

    int won(int boy) {
        if (boy != 0 && boy != 1) {
            return UNKNOWN;
        }
        return yard == null ? NONE
            : WORKED_OUT.computeIfAbsent(name("won", boy), n -> new int[] {yard.won(boy)})[0];
    }

    int first(int boy) {
        if (boy != 0 && boy != 1) {
            return UNKNOWN;
        }
        return yard == null ? NONE
            : WORKED_OUT.computeIfAbsent(name("first", boy), n -> new int[] {yard.first(boy)})[0];
    }

    int rows(int n, long tracks, int q) {
        if (n < 1 || n > 3) {
            return OUTSIDE;
        }
        for (int bit = 0; bit < 64; bit++) {
            if ((tracks & 1L << bit) != 0 && bit >= cells()) {
                return OUTSIDE;
            }
        }
        if (q < -1 || q > n - 1) {
            return UNKNOWN;
        }
        long[] first = null;
        int count = 0;
        for (long[] line : allRows(n)) {
            if (line[0] == tracks) {
                first = first == null ? line : first;
                count++;
            }
        }
        return q == -1 ? count : first == null ? NONE : (int) first[q + 1];
    }

    private List<long[]> allRows(int n) {
        if (yard == null) {
            return new ArrayList<>();
        }
        return ALL_ROWS.computeIfAbsent(name("rows", n), name -> {
            List<long[]> all = new ArrayList<>();
            yard.rows(n, 0, new ArrayList<>(), all);
            return all;
        });
    }

    int sand(int k, int gate, int n, int q) {
        if (!isBlock(k) || gate != 0 && gate != 1 || q < -1 || q > 1) {
            return UNKNOWN;
        }
        if (n != 1 && n != 2) {
            return OUTSIDE;
        }
        int[] row = WORKED_OUT.computeIfAbsent(name("sand", k, gate, n), name -> {
            int[] cells = yard.sand(k, gate, n);
            return cells == null ? new int[] {NONE} : cells;
        });
        if (row.length == 1 && row[0] == NONE) {
            return NONE;
        }
        return q == -1 ? row.length : q < row.length ? row[q] : NONE;
    }

    int thaw(int hour) {
        if (hour < 0 || hour > 20) {
            return OUTSIDE;
        }
        return yard == null ? 0 : yard.thaw(hour);
    }

    int sheet(int k, int lane, int n) {
        fault = 0;
        if (k < 0 || k > 3) {
            return UNKNOWN;
        }
        if (lane < 0 || lane > 2 || n > 60) {
            return OUTSIDE;
        }
        if (n < 0) {
            return faulty(SIZE);
        }
        sheets[k] = new int[n];
        lanes[k] = lane;
        return 1;
    }

    int lose(int k) {
        if (k < 0 || k > 3) {
            return UNKNOWN;
        }
        boolean had = sheets[k] != null;
        sheets[k] = null;
        return had ? 1 : 0;
    }

    int put(int k, int i, int v) {
        fault = 0;
        if (k < 0 || k > 3) {
            return UNKNOWN;
        }
        if (sheets[k] == null) {
            return faulty(NULL);
        }
        if (i < 0 || i >= sheets[k].length) {
            return faulty(INDEX);
        }
        sheets[k][i] = cut(v, lanes[k]);
        return 1;
    }

    static int cut(int v, int lane) {
        long numbers = 1L << (8 << lane);
        long rest = Math.floorMod((long) v, numbers);
        return (int) (rest >= numbers / 2 ? rest - numbers : rest);
    }

    long cell(int k, int i, int lane) {
        fault = 0;
        if (k < 0 || k > 3 || lane < 0 || lane > 2) {
            return LOST;
        }
        if (sheets[k] != null && lanes[k] != lane) {
            fault = CAST;
            return LOST;
        }
        if (sheets[k] == null) {
            fault = NULL;
            return LOST;
        }
        if (i < 0 || i >= sheets[k].length) {
            fault = INDEX;
            return LOST;
        }
        return sheets[k][i];
    }

    int copy(int k, int i, int other, int j, int n) {
        fault = 0;
        if (k < 0 || k > 3 || other < 0 || other > 3) {
            return UNKNOWN;
        }
        if (sheets[k] == null || sheets[other] == null) {
            return faulty(NULL);
        }
        if (lanes[k] != lanes[other]) {
            return faulty(CAST);
        }
        if (i < 0 || j < 0 || n < 0 || (long) i + n > sheets[k].length || (long) j + n > sheets[other].length) {
            return faulty(INDEX);
        }
        int[] asTheyWere = Arrays.copyOfRange(sheets[k], i, i + n);
        for (int c = 0; c < n; c++) {
            sheets[other][j + c] = asTheyWere[c];
        }
        return n;
    }

    int tell(int k) {
        if (!isBlock(k)) {
            return UNKNOWN;
        }
        int[][] bodies = {{1}, {2, 1}, {3, 2, 1, 1}};
        for (int body : bodies[yard.kinds[k]]) {
            trace = trace * 31 + body;
        }
        int[] told = {starts[k], starts[k] + 100, starts[k] + 100 + starts[k]};
        return told[yard.kinds[k]];
    }

    int kick(int k) {
        if (!isBlock(k)) {
            return UNKNOWN;
        }
        trace = trace * 31 + (yard.kinds[k] == 2 ? 5 : 4);
        return yard.kinds[k] == 2 ? 60 : k;
    }

    int as(int k, int kind) {
        fault = 0;
        if (!isBlock(k)) {
            return UNKNOWN;
        }
        if (kind < 0 || kind > 2) {
            return OUTSIDE;
        }
        return yard.kinds[k] < kind ? faulty(CAST) : 1;
    }

    int trace() {
        return trace;
    }

    int fault() {
        return fault;
    }

    int many(int what) {
        if (what < 0 || what > 4) {
            return OUTSIDE;
        }
        if (yard == null) {
            return 0;
        }
        int[] many = {yard.high, yard.wide, blocks(), yard.openCracks(), before.size()};
        return many[what];
    }
}
