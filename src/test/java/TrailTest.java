/** Promises 14 rows, 15 sand, 16 thaw. */
public final class TrailTest {
    private static final Check CHECK = new Check("TrailTest");

    public static void main(String[] args) {
        rows();
        rowsAtTheEdges();
        rowRefusals();
        sand();
        sandAtTheEdges();
        sandRefusals();
        thaw();
        thawOfEachHeight();
        CHECK.end();
    }

    private static void rowsOf(IceYard x, int n, long tracks, int count, int... first) {
        String call = "rows " + n + " on " + tracks;
        CHECK.due(call, x.rows(n, tracks, -1), count);
        for (int q = 0; q < n; q++) {
            CHECK.due(call + " q " + q, x.rows(n, tracks, q), count == 0 ? IceYard.NONE : first[q]);
        }
        CHECK.due(call + " no PUSH is done", x.many(4), 0);
    }

    private static void rows() {
        IceYard x = Check.yardOf("i33;o..;...;..o");
        rowsOf(x, 1, Check.set(1, 2), 1, 1);
        rowsOf(x, 1, Check.set(3, 6), 1, 2);
        rowsOf(x, 1, Check.set(5, 2), 1, 10);
        rowsOf(x, 1, Check.set(2), 0);
        rowsOf(x, 1, 0, 0);
        rowsOf(x, 2, 0, 0);
        // BLOCK 0 right and back leaves more than the way there.
        rowsOf(x, 2, Check.set(1, 2), 0);
        rowsOf(x, 2, Check.set(0, 1, 2), 1, 1, 3);
        // 0 right, and then it down or 1 up; 1 up, and then 0 right or 1 left.
        rowsOf(x, 2, Check.set(1, 2, 5), 4, 1, 2);
        rowsOf(x, 3, Check.set(0, 1, 2), 1, 1, 3, 1);
        rowsOf(Check.yardOf("i33;###;#o#;###"), 3, 0, 0);
        // Where a LOG sends another one on, both leave TRACKS.
        rowsOf(Check.yardOf("i36;l.o...;######;######"), 1, Check.set(1, 3, 4, 5), 1, 1);
        rowsOf(Check.yardOf("i34;o..a;####;####"), 2, Check.set(1, 2, 3), 0);
        rowsOf(Check.yardOf("i34;o..a;####;####"), 1, Check.set(1, 2, 3), 1, 1);
        rowsOf(Check.yardOf("i66;......;......;......;......;......;o....c"), 1,
            Check.set(31, 32, 33, 34, 35), 1, 1);
    }

    /** All CELLS of the largest YARD, and none beyond; a YARD that has none; the most and the fewest PUSHES. */
    private static void rowsAtTheEdges() {
        IceYard x = Check.yardOf("i66;......;......;......;......;......;o.....");
        rowsOf(x, 1, Check.set(31, 32, 33, 34, 35), 1, 1);
        rowsOf(x, 2, Check.set(31, 32, 33, 34, 35, 29, 23, 17, 11, 5), 1, 1, 0);
        rowsOf(x, 1, (1L << 36) - 1, 0);
        CHECK.due("a bit of CELL 36", x.rows(1, 1L << 36, -1), IceYard.OUTSIDE);
        CHECK.due("and of others", x.rows(1, 1L << 36 | 62, -1), IceYard.OUTSIDE);
        CHECK.due("bit 62", x.rows(1, 1L << 62, -1), IceYard.OUTSIDE);
        CHECK.due("bit 63", x.rows(1, 1L << 63, -1), IceYard.OUTSIDE);
        CHECK.due("the most", x.rows(1, Long.MAX_VALUE, -1), IceYard.OUTSIDE);
        x = new IceYard();
        CHECK.due("without a YARD, none", x.rows(3, 0, -1), 0);
        CHECK.due("without a YARD, none, q 2", x.rows(3, 0, 2), IceYard.NONE);
        CHECK.due("without a YARD, q 3", x.rows(3, 0, 3), IceYard.UNKNOWN);
        CHECK.due("without a YARD, a bit", x.rows(3, 1, -1), IceYard.OUTSIDE);
        // Up and down on three CELLS: the third PUSH leaves nothing new.
        x = Check.yardOf("i33;#.#;#.#;#o#");
        rowsOf(x, 1, Check.set(1, 4), 1, 0);
        rowsOf(x, 2, Check.set(1, 4), 0);
        rowsOf(x, 2, Check.set(1, 4, 7), 1, 0, 2);
        rowsOf(x, 3, Check.set(1, 4, 7), 1, 0, 2, 0);
        // After the only PUSH none is left.
        x = Check.yardOf("i33;###;oc#;###");
        rowsOf(x, 1, Check.set(4), 1, 1);
        rowsOf(x, 2, Check.set(4), 0);
        x.push(0, 1);
        x.keep(0);
        x.back(0);
        rowsOf(x, 1, Check.set(4), 0);
        rowsOf(x, 1, 0, 0);
        rowsOf(x, 3, 0, 0);
        // Six BLOCKS, each by itself to the right, or two or three of them, in any order;
        // where BLOCK 1 goes to the right and up and BLOCK 5 to the right, the TRACKS are the same.
        x = Check.yardOf("i63;#o.;#o.;#o.;#o.;#o.;#o.");
        rowsOf(x, 1, Check.set(17), 1, 51);
        rowsOf(x, 2, Check.set(2, 17), 2, 1, 51);
        rowsOf(x, 3, Check.set(2, 5, 17), 9, 1, 11, 51);
    }

    private static void rowRefusals() {
        IceYard x = Check.yardOf("i33;o..;...;..o");
        CHECK.due("n 0", x.rows(0, 1, -1), IceYard.OUTSIDE);
        CHECK.due("n 4", x.rows(4, 1, -1), IceYard.OUTSIDE);
        CHECK.due("a set below 0", x.rows(1, -1, -1), IceYard.OUTSIDE);
        CHECK.due("the least set", x.rows(1, Long.MIN_VALUE, -1), IceYard.OUTSIDE);
        CHECK.due("a bit of none", x.rows(1, Check.set(9), -1), IceYard.OUTSIDE);
        CHECK.due("a far bit of none", x.rows(1, Check.set(1, 2, 62), -1), IceYard.OUTSIDE);
        CHECK.due("the last CELL", x.rows(1, Check.set(8), -1), 0);
        CHECK.due("OUTSIDE ahead of UNKNOWN", x.rows(1, Check.set(9), 7), IceYard.OUTSIDE);
        CHECK.due("q -2", x.rows(1, 1, -2), IceYard.UNKNOWN);
        CHECK.due("q n", x.rows(1, 1, 1), IceYard.UNKNOWN);
        CHECK.due("q 2 of 3", x.rows(3, 1, 2), IceYard.NONE);
        CHECK.due("q 3 of 3", x.rows(3, 1, 3), IceYard.UNKNOWN);
    }

    private static void sandOf(IceYard x, int k, int gate, int n, int count, int... row) {
        String call = "sand " + k + " " + gate + " " + n;
        CHECK.due(call, x.sand(k, gate, n, -1), count);
        for (int q = 0; q < 2; q++) {
            CHECK.due(call + " q " + q, x.sand(k, gate, n, q), q < row.length ? row[q] : IceYard.NONE);
        }
        CHECK.due(call + " none is put", x.rows(1, 0, -1), 0);
    }

    private static void sand() {
        // No SAND is needed.
        IceYard x = Check.yardOf("i33;o.a;...;..b");
        sandOf(x, 0, 0, 1, 0);
        sandOf(x, 0, 1, 1, IceYard.NONE);
        sandOf(x, 0, 1, 2, 0);
        // It has to stop above the GATE: only CELL 2 does.
        x = Check.yardOf("i35;o....;.....;##a##");
        sandOf(x, 0, 0, 1, IceYard.NONE);
        sandOf(x, 0, 0, 2, 1, 2);
        CHECK.due("it slides on as it did", x.would(0, 1), 4);
        CHECK.due("the CELL is ICE", x.at(2), 0);
        // A SLEDGE does not stop on it.
        sandOf(Check.yardOf("i35;d....;.....;##a##"), 0, 0, 2, IceYard.NONE);
        // CELL 1 serves and so does CELL 4: the first of them.
        sandOf(Check.yardOf("i44;o..#;...a;...#;#a##"), 0, 0, 2, 1, 1);
        sandOf(Check.yardOf("i44;o..#;...a;...#;#.##"), 0, 0, 2, 1, 4);
        // Not where a BLOCK lies, nor on a FILLED CRACK.
        x = Check.yardOf("i35;o.l..;#####;##a##");
        sandOf(x, 0, 0, 2, IceYard.NONE);
        x = Check.yardOf("i45;o.c..;.....;.....;##a##");
        sandOf(x, 0, 0, 2, IceYard.NONE);
        x = Check.yardOf("i45;o.c.o;.....;.....;##a##");
        sandOf(x, 0, 0, 2, IceYard.NONE);
        x.push(1, 3);
        CHECK.due("FILLED", x.at(2), 0);
        sandOf(x, 0, 0, 2, IceYard.NONE);
        // Where a BLOCK lay in the TEXT is ICE.
        x = Check.yardOf("i45;o.o..;.....;.....;##a##");
        sandOf(x, 0, 0, 2, IceYard.NONE);
        sandOf(x, 1, 0, 1, 0);
        x.push(1, 2);
        CHECK.due("BLOCK 1 is HOME", x.ofBlock(1, 1), -20);
        sandOf(x, 0, 0, 2, 1, 2);
        sandOf(x, 1, 0, 2, IceYard.NONE);
        // Another BLOCK may be PUSHED: a LOG that stops, and so sends on.
        sandOf(Check.yardOf("i36;o....a;######;######"), 0, 0, 1, 0);
        sandOf(Check.yardOf("i36;..o..a;..l...;######"), 0, 0, 1, 0);
        // GONE: NONE.
        x = Check.yardOf("i35;o.c.a;.....;.....");
        x.push(0, 1);
        sandOf(x, 0, 0, 2, IceYard.NONE);
    }

    private static void sandAtTheEdges() {
        // Each way to the GATE, from where only SAND lets it stop.
        sandOf(Check.yardOf("i44;....;o...;....;#a##"), 0, 0, 2, 1, 5);
        sandOf(Check.yardOf("i44;#a##;....;o...;...."), 0, 0, 2, 1, 9);
        sandOf(Check.yardOf("i44;..o.;...#;...b;...#"), 0, 1, 2, 1, 10);
        sandOf(Check.yardOf("i44;.o..;#...;b...;#..."), 0, 1, 2, 1, 9);
        // It would have to be put where another BLOCK lies, or on SAND that is there.
        sandOf(Check.yardOf("i44;....;ol..;....;#a##"), 0, 0, 2, IceYard.NONE);
        sandOf(Check.yardOf("i44;....;os..;....;#a##"), 0, 0, 2, 0);
        // Behind a WALL, whatever is put.
        sandOf(Check.yardOf("i33;a#o;###;###"), 0, 0, 2, IceYard.NONE);
        // Within one PUSH no SAND helps.
        sandOf(Check.yardOf("i44;....;o...;....;#a##"), 0, 0, 1, IceYard.NONE);
        sandOf(Check.yardOf("i44;....;o...;....;#a##"), 0, 1, 2, IceYard.NONE);
        // By the PUSH of a LOG that strikes it, and by that of another BLOCK first, which clears the way.
        sandOf(Check.yardOf("i34;l.oa;####;####"), 1, 0, 1, 0);
        sandOf(Check.yardOf("i34;o.oa;##.#;####"), 0, 0, 2, 0);
        sandOf(Check.yardOf("i34;o.oa;##.#;####"), 0, 0, 1, IceYard.NONE);
        // The last BLOCK of six, in the largest YARD.
        IceYard x = Check.yardOf("i66;ooooo.;####..;####..;####..;##o...;#####b");
        CHECK.due("sand of the last BLOCK", x.sand(5, 1, 2, -1), 0);
        x = Check.yardOf("i66;ooooo#;####.#;####.#;####.#;##o...;####b#");
        sandOf(x, 5, 1, 2, 1, 28);
        sandOf(x, 4, 1, 1, 0);
        sandOf(x, 4, 0, 2, IceYard.NONE);
        // NONE of one that is HOME, and of one that is GONE, by either GATE.
        x = Check.yardOf("i34;o..a;o..c;o.ab");
        x.push(0, 1);
        x.push(1, 1);
        for (int gate = 0; gate < 2; gate++) {
            sandOf(x, 0, gate, 1, IceYard.NONE);
            sandOf(x, 1, gate, 2, IceYard.NONE);
        }
        sandOf(x, 2, 0, 1, 0);
    }

    private static void sandRefusals() {
        IceYard x = Check.yardOf("i33;o.a;...;..b");
        CHECK.due("BLOCK 1", x.sand(1, 0, 1, -1), IceYard.UNKNOWN);
        CHECK.due("BLOCK -1", x.sand(-1, 0, 1, -1), IceYard.UNKNOWN);
        CHECK.due("GATE 2", x.sand(0, 2, 1, -1), IceYard.UNKNOWN);
        CHECK.due("GATE -1", x.sand(0, -1, 1, -1), IceYard.UNKNOWN);
        CHECK.due("q -2", x.sand(0, 0, 1, -2), IceYard.UNKNOWN);
        CHECK.due("q 2 ahead of n", x.sand(0, 0, 3, 2), IceYard.UNKNOWN);
        CHECK.due("n 0", x.sand(0, 0, 0, -1), IceYard.OUTSIDE);
        CHECK.due("n 3", x.sand(0, 0, 3, -1), IceYard.OUTSIDE);
        x.push(0, 1);
        CHECK.due("HOME", x.sand(0, 0, 1, -1), IceYard.NONE);
        CHECK.due("HOME, n 3", x.sand(0, 0, 3, -1), IceYard.OUTSIDE);
    }

    private static void thaw() {
        IceYard x = Check.yardOf("i63;o..;.o.;..l;d..;.d.;..l");
        int[] want = {0, 0, 32, 32, 48, 48, 56, 56, 60, 60, 62, 62, 63, 63, 63, 63, 63, 63, 63, 63, 63};
        for (int hour = 0; hour <= 20; hour++) {
            CHECK.due("thaw(" + hour + ")", x.thaw(hour), want[hour]);
        }
        CHECK.due("thaw(-1)", x.thaw(-1), IceYard.OUTSIDE);
        CHECK.due("thaw(21)", x.thaw(21), IceYard.OUTSIDE);
        x = Check.yardOf("i34;o..c;l..a;d..b");
        CHECK.due("as they lie", x.thaw(4), 6);
        x.push(0, 1);
        x.push(1, 1);
        CHECK.due("GONE and HOME are not lost", x.thaw(20), 4);
        x.push(2, 0);
        CHECK.due("it lies higher", x.thaw(5), 0);
        CHECK.due("it lies in the third row", x.thaw(6), 4);
    }

    /** The r-th row from below melts in HOUR 2 r, not in the one ahead of it; more HOURS than rows lose no more. */
    private static void thawOfEachHeight() {
        for (int high = 3; high <= 6; high++) {
            StringBuilder text = new StringBuilder("i").append(high).append("3");
            for (int y = 0; y < high; y++) {
                text.append(";.o.");
            }
            IceYard x = Check.yardOf(text.toString());
            int lost = 0;
            for (int r = 1; r <= 10; r++) {
                CHECK.due(text + " thaw " + (2 * r - 1), x.thaw(2 * r - 1), lost);
                lost |= r <= high ? 1 << (high - r) : 0;
                CHECK.due(text + " thaw " + 2 * r, x.thaw(2 * r), lost);
            }
            CHECK.due(text + " thaw 0", x.thaw(0), 0);
            CHECK.due(text + " thaw 21", x.thaw(21), IceYard.OUTSIDE);
        }
        IceYard x = new IceYard();
        CHECK.due("without a YARD: thaw 0", x.thaw(0), 0);
        CHECK.due("without a YARD: thaw 20", x.thaw(20), 0);
        CHECK.due("without a YARD: thaw 21", x.thaw(21), IceYard.OUTSIDE);
        CHECK.due("without a YARD: thaw -1", x.thaw(-1), IceYard.OUTSIDE);
        CHECK.due("a YARD that has no BLOCK", Check.yardOf("i33;###;...;sca").thaw(20), 0);
    }
}
