import java.util.ArrayList;
import java.util.Arrays;
import java.util.HashMap;
import java.util.HashSet;
import java.util.List;
import java.util.Map;
import java.util.Set;

/**
 * A second yard, told as the document tells it and sparing nothing, to hold IceYard against:
 * a grid of signs, lists of blocks, every pair of cells tried for sand, passes played out.
 */
final class PlainYard {
    static final int GONE = -6, NONE = -9, SPENT = -5, STATE = -3;

    int high;
    int wide;
    char[] signs;
    boolean[] filled;
    int[] kinds;
    int[] where;
    /** How many YARDS fewest() has come to. */
    int comeTo;

    PlainYard(String text) {
        high = text.charAt(1) - '0';
        wide = text.charAt(2) - '0';
        String cells = text.substring(3).replace(";", "");
        signs = cells.toCharArray();
        filled = new boolean[signs.length];
        List<Integer> at = new ArrayList<>();
        for (int c = 0; c < signs.length; c++) {
            if ("old".indexOf(signs[c]) >= 0) {
                at.add(c);
            }
        }
        kinds = new int[at.size()];
        where = new int[at.size()];
        for (int k = 0; k < kinds.length; k++) {
            where[k] = at.get(k);
            kinds[k] = "old".indexOf(signs[where[k]]);
            signs[where[k]] = '.';
        }
    }

    PlainYard(PlainYard other) {
        high = other.high;
        wide = other.wide;
        signs = other.signs.clone();
        filled = other.filled.clone();
        kinds = other.kinds;
        where = other.where.clone();
    }

    /** What a push does to a copy. */
    static final class Pushed {
        PlainYard yard;
        Set<Integer> tracks = new HashSet<>();
        Map<Integer, Integer> homes = new HashMap<>();
    }

    String alike() {
        return Arrays.toString(where) + Arrays.toString(filled);
    }

    int blockIn(int cell) {
        for (int k = 0; k < where.length; k++) {
            if (where[k] == cell) {
                return k;
            }
        }
        return -1;
    }

    int at(int c) {
        int k = blockIn(c);
        if (k >= 0) {
            return 10 + k;
        }
        if (signs[c] == 'c' && filled[c]) {
            return 0;
        }
        return ".#scab".indexOf(signs[c]);
    }

    int openCracks() {
        int n = 0;
        for (int c = 0; c < signs.length; c++) {
            if (signs[c] == 'c' && !filled[c]) {
                n++;
            }
        }
        return n;
    }

    /** null where it is no push. */
    Pushed push(int k, int d) {
        if (where[k] < 0) {
            return null;
        }
        Pushed p = new Pushed();
        p.yard = new PlainYard(this);
        p.yard.slide(k, d, p);
        return p.tracks.isEmpty() ? null : p;
    }

    private void slide(int k, int d, Pushed p) {
        int[] down = {-1, 0, 1, 0};
        int[] right = {0, 1, 0, -1};
        while (true) {
            int y = where[k] / wide + down[d];
            int x = where[k] % wide + right[d];
            if (y < 0 || y >= high || x < 0 || x >= wide || signs[y * wide + x] == '#') {
                return;
            }
            int next = y * wide + x;
            int struck = blockIn(next);
            if (struck >= 0) {
                if (kinds[k] > 0) {
                    slide(struck, d, p);
                }
                return;
            }
            where[k] = next;
            p.tracks.add(next);
            if (signs[next] == 'c' && !filled[next]) {
                filled[next] = true;
                where[k] = GONE;
                return;
            }
            if (signs[next] == 'a' || signs[next] == 'b') {
                int gate = signs[next] - 'a';
                where[k] = -20 - gate;
                p.homes.put(k, gate);
                return;
            }
            if (signs[next] == 's' && kinds[k] != 2) {
                return;
            }
        }
    }

    /** {SPENT}, {NONE} or the row. */
    int[] fewest(int gate) {
        return fewest(gate, 1500);
    }

    int[] fewest(int gate, int most) {
        List<PlainYard> yards = new ArrayList<>();
        List<int[]> rows = new ArrayList<>();
        Set<String> seen = new HashSet<>();
        yards.add(this);
        rows.add(new int[0]);
        seen.add(alike());
        comeTo = 1;
        for (int i = 0; i < yards.size(); i++) {
            for (int k = 0; k < kinds.length; k++) {
                for (int d = 0; d < 4; d++) {
                    Pushed p = yards.get(i).push(k, d);
                    if (p == null) {
                        continue;
                    }
                    int[] row = Arrays.copyOf(rows.get(i), rows.get(i).length + 1);
                    row[row.length - 1] = 10 * k + d;
                    if (p.homes.containsValue(gate)) {
                        return row;
                    }
                    if (seen.add(p.yard.alike())) {
                        yards.add(p.yard);
                        rows.add(row);
                        comeTo = yards.size();
                        if (comeTo > most) {
                            return new int[] {SPENT};
                        }
                    }
                }
            }
        }
        return new int[] {NONE};
    }

    /** Who has won by a push: -1 nobody. */
    private static int winner(Pushed p, int pusher) {
        if (p.homes.containsValue(pusher)) {
            return pusher;
        }
        return p.homes.containsValue(1 - pusher) ? 1 - pusher : -1;
    }

    boolean wins(int boy, int turn, int left) {
        if (left == 0) {
            return false;
        }
        boolean any = false;
        for (int k = 0; k < kinds.length; k++) {
            for (int d = 0; d < 4; d++) {
                Pushed p = push(k, d);
                if (p == null) {
                    continue;
                }
                any = true;
                int winner = winner(p, turn);
                boolean good = winner == boy || winner < 0 && p.yard.wins(boy, 1 - turn, left - 1);
                if (good != (turn != boy)) {
                    return good;
                }
            }
        }
        return any ? turn != boy : wins(boy, 1 - turn, left - 1);
    }

    int won(int boy) {
        for (int n = 1; n <= 4; n++) {
            if (wins(boy, boy, n)) {
                return n;
            }
        }
        return NONE;
    }

    int first(int boy) {
        int n = won(boy);
        for (int k = 0; n > 0 && k < kinds.length; k++) {
            for (int d = 0; d < 4; d++) {
                Pushed p = push(k, d);
                if (p == null) {
                    continue;
                }
                int winner = winner(p, boy);
                if (winner == boy || winner < 0 && p.yard.wins(boy, 1 - boy, n - 1)) {
                    return 10 * k + d;
                }
            }
        }
        return NONE;
    }

    /** All rows of n pushes, with the set of their tracks in front. */
    void rows(int n, long tracks, List<Integer> row, List<long[]> all) {
        if (n == 0) {
            long[] line = new long[1 + row.size()];
            line[0] = tracks;
            for (int q = 0; q < row.size(); q++) {
                line[q + 1] = row.get(q);
            }
            all.add(line);
            return;
        }
        for (int k = 0; k < kinds.length; k++) {
            for (int d = 0; d < 4; d++) {
                Pushed p = push(k, d);
                if (p == null) {
                    continue;
                }
                row.add(10 * k + d);
                p.yard.rows(n - 1, tracks | bits(p.tracks), row, all);
                row.remove(row.size() - 1);
            }
        }
    }

    static long bits(Set<Integer> cells) {
        long set = 0;
        for (int c : cells) {
            set |= 1L << c;
        }
        return set;
    }

    private boolean comesHome(int k, int gate, int n) {
        for (int b = 0; n > 0 && b < kinds.length; b++) {
            for (int d = 0; d < 4; d++) {
                Pushed p = push(b, d);
                if (p == null) {
                    continue;
                }
                if (p.homes.containsKey(k) && p.homes.get(k) == gate || p.yard.comesHome(k, gate, n - 1)) {
                    return true;
                }
            }
        }
        return false;
    }

    private boolean isFree(int c) {
        return signs[c] == '.' && blockIn(c) < 0;
    }

    /** null where it can't be. */
    int[] sand(int k, int gate, int n) {
        if (where[k] < 0) {
            return null;
        }
        if (comesHome(k, gate, n)) {
            return new int[0];
        }
        for (int c = 0; c < signs.length; c++) {
            if (isFree(c) && with(c, -1).comesHome(k, gate, n)) {
                return new int[] {c};
            }
        }
        for (int c = 0; c < signs.length; c++) {
            for (int e = c + 1; e < signs.length; e++) {
                if (isFree(c) && isFree(e) && with(c, e).comesHome(k, gate, n)) {
                    return new int[] {c, e};
                }
            }
        }
        return null;
    }

    private PlainYard with(int c, int e) {
        PlainYard other = new PlainYard(this);
        other.signs[c] = 's';
        if (e >= 0) {
            other.signs[e] = 's';
        }
        return other;
    }

    int thaw(int hour) {
        int lost = 0;
        for (int k = 0; k < kinds.length; k++) {
            if (where[k] >= 0 && 2 * (high - where[k] / wide) <= hour) {
                lost |= 1 << k;
            }
        }
        return lost;
    }
}
