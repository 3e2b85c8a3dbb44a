/** Promises 14 rows, 15 sand, 16 thaw. */
public final class TrailTest {
    private static final Check CHECK = new Check("TrailTest");

    public static void main(String[] args) {
        rows();
        rowRefusals();
        sand();
        sandRefusals();
        thaw();
        CHECK.end();
    }

    private static void rowsOf(IceYard x, int n, long tracks, int count, int... first) {
        String call = "rows " + n + " on " + tracks;
        CHECK.due(call, x.rows(n, tracks, -1), count);
        for (int q = 0; q < n; q++) {
            CHECK.due(call + " q " + q, x.rows(n, tracks, q), count == 0 ? IceYard.NONE : first[q]);
        }
        CHECK.due(call + " no PUSH is done", x.many(4), 0);
    }

    private static void rows() {
        IceYard x = Check.yardOf("i33;o..;...;..o");
        rowsOf(x, 1, Check.set(1, 2), 1, 1);
        rowsOf(x, 1, Check.set(3, 6), 1, 2);
        rowsOf(x, 1, Check.set(5, 2), 1, 10);
        rowsOf(x, 1, Check.set(2), 0);
        rowsOf(x, 1, 0, 0);
        rowsOf(x, 2, 0, 0);
        // BLOCK 0 right and back leaves more than the way there.
        rowsOf(x, 2, Check.set(1, 2), 0);
        rowsOf(x, 2, Check.set(0, 1, 2), 1, 1, 3);
        // 0 right, and then it down or 1 up; 1 up, and then 0 right or 1 left.
        rowsOf(x, 2, Check.set(1, 2, 5), 4, 1, 2);
        rowsOf(x, 3, Check.set(0, 1, 2), 1, 1, 3, 1);
        rowsOf(Check.yardOf("i33;###;#o#;###"), 3, 0, 0);
        // Where a LOG sends another one on, both leave TRACKS.
        rowsOf(Check.yardOf("i36;l.o...;######;######"), 1, Check.set(1, 3, 4, 5), 1, 1);
        rowsOf(Check.yardOf("i34;o..a;####;####"), 2, Check.set(1, 2, 3), 0);
        rowsOf(Check.yardOf("i34;o..a;####;####"), 1, Check.set(1, 2, 3), 1, 1);
        rowsOf(Check.yardOf("i66;......;......;......;......;......;o....c"), 1,
            Check.set(31, 32, 33, 34, 35), 1, 1);
    }

    private static void rowRefusals() {
        IceYard x = Check.yardOf("i33;o..;...;..o");
        CHECK.due("n 0", x.rows(0, 1, -1), IceYard.OUTSIDE);
        CHECK.due("n 4", x.rows(4, 1, -1), IceYard.OUTSIDE);
        CHECK.due("a set below 0", x.rows(1, -1, -1), IceYard.OUTSIDE);
        CHECK.due("the least set", x.rows(1, Long.MIN_VALUE, -1), IceYard.OUTSIDE);
        CHECK.due("a bit of none", x.rows(1, Check.set(9), -1), IceYard.OUTSIDE);
        CHECK.due("a far bit of none", x.rows(1, Check.set(1, 2, 62), -1), IceYard.OUTSIDE);
        CHECK.due("the last CELL", x.rows(1, Check.set(8), -1), 0);
        CHECK.due("OUTSIDE ahead of UNKNOWN", x.rows(1, Check.set(9), 7), IceYard.OUTSIDE);
        CHECK.due("q -2", x.rows(1, 1, -2), IceYard.UNKNOWN);
        CHECK.due("q n", x.rows(1, 1, 1), IceYard.UNKNOWN);
        CHECK.due("q 2 of 3", x.rows(3, 1, 2), IceYard.NONE);
        CHECK.due("q 3 of 3", x.rows(3, 1, 3), IceYard.UNKNOWN);
    }

    private static void sandOf(IceYard x, int k, int gate, int n, int count, int... row) {
        String call = "sand " + k + " " + gate + " " + n;
        CHECK.due(call, x.sand(k, gate, n, -1), count);
        for (int q = 0; q < 2; q++) {
            CHECK.due(call + " q " + q, x.sand(k, gate, n, q), q < row.length ? row[q] : IceYard.NONE);
        }
        CHECK.due(call + " none is put", x.rows(1, 0, -1), 0);
    }

    private static void sand() {
        // No SAND is needed.
        IceYard x = Check.yardOf("i33;o.a;...;..b");
        sandOf(x, 0, 0, 1, 0);
        sandOf(x, 0, 1, 1, IceYard.NONE);
        sandOf(x, 0, 1, 2, 0);
        // It has to stop above the GATE: only CELL 2 does.
        x = Check.yardOf("i35;o....;.....;##a##");
        sandOf(x, 0, 0, 1, IceYard.NONE);
        sandOf(x, 0, 0, 2, 1, 2);
        CHECK.due("it slides on as it did", x.would(0, 1), 4);
        CHECK.due("the CELL is ICE", x.at(2), 0);
        // A SLEDGE does not stop on it.
        sandOf(Check.yardOf("i35;d....;.....;##a##"), 0, 0, 2, IceYard.NONE);
        // CELL 1 serves and so does CELL 4: the first of them.
        sandOf(Check.yardOf("i44;o..#;...a;...#;#a##"), 0, 0, 2, 1, 1);
        sandOf(Check.yardOf("i44;o..#;...a;...#;#.##"), 0, 0, 2, 1, 4);
        // Not where a BLOCK lies, nor on a FILLED CRACK.
        x = Check.yardOf("i35;o.l..;#####;##a##");
        sandOf(x, 0, 0, 2, IceYard.NONE);
        x = Check.yardOf("i45;o.c..;.....;.....;##a##");
        sandOf(x, 0, 0, 2, IceYard.NONE);
        x = Check.yardOf("i45;o.c.o;.....;.....;##a##");
        sandOf(x, 0, 0, 2, IceYard.NONE);
        x.push(1, 3);
        CHECK.due("FILLED", x.at(2), 0);
        sandOf(x, 0, 0, 2, IceYard.NONE);
        // Where a BLOCK lay in the TEXT is ICE.
        x = Check.yardOf("i45;o.o..;.....;.....;##a##");
        sandOf(x, 0, 0, 2, IceYard.NONE);
        sandOf(x, 1, 0, 1, 0);
        x.push(1, 2);
        CHECK.due("BLOCK 1 is HOME", x.ofBlock(1, 1), -20);
        sandOf(x, 0, 0, 2, 1, 2);
        sandOf(x, 1, 0, 2, IceYard.NONE);
        // Another BLOCK may be PUSHED: a LOG that stops, and so sends on.
        sandOf(Check.yardOf("i36;o....a;######;######"), 0, 0, 1, 0);
        sandOf(Check.yardOf("i36;..o..a;..l...;######"), 0, 0, 1, 0);
        // GONE: NONE.
        x = Check.yardOf("i35;o.c.a;.....;.....");
        x.push(0, 1);
        sandOf(x, 0, 0, 2, IceYard.NONE);
    }

    private static void sandRefusals() {
        IceYard x = Check.yardOf("i33;o.a;...;..b");
        CHECK.due("BLOCK 1", x.sand(1, 0, 1, -1), IceYard.UNKNOWN);
        CHECK.due("BLOCK -1", x.sand(-1, 0, 1, -1), IceYard.UNKNOWN);
        CHECK.due("GATE 2", x.sand(0, 2, 1, -1), IceYard.UNKNOWN);
        CHECK.due("GATE -1", x.sand(0, -1, 1, -1), IceYard.UNKNOWN);
        CHECK.due("q -2", x.sand(0, 0, 1, -2), IceYard.UNKNOWN);
        CHECK.due("q 2 ahead of n", x.sand(0, 0, 3, 2), IceYard.UNKNOWN);
        CHECK.due("n 0", x.sand(0, 0, 0, -1), IceYard.OUTSIDE);
        CHECK.due("n 3", x.sand(0, 0, 3, -1), IceYard.OUTSIDE);
        x.push(0, 1);
        CHECK.due("HOME", x.sand(0, 0, 1, -1), IceYard.NONE);
        CHECK.due("HOME, n 3", x.sand(0, 0, 3, -1), IceYard.OUTSIDE);
    }

    private static void thaw() {
        IceYard x = Check.yardOf("i63;o..;.o.;..l;d..;.d.;..l");
        int[] want = {0, 0, 32, 32, 48, 48, 56, 56, 60, 60, 62, 62, 63, 63, 63, 63, 63, 63, 63, 63, 63};
        for (int hour = 0; hour <= 20; hour++) {
            CHECK.due("thaw(" + hour + ")", x.thaw(hour), want[hour]);
        }
        CHECK.due("thaw(-1)", x.thaw(-1), IceYard.OUTSIDE);
        CHECK.due("thaw(21)", x.thaw(21), IceYard.OUTSIDE);
        x = Check.yardOf("i34;o..c;l..a;d..b");
        CHECK.due("as they lie", x.thaw(4), 6);
        x.push(0, 1);
        x.push(1, 1);
        CHECK.due("GONE and HOME are not lost", x.thaw(20), 4);
        x.push(2, 0);
        CHECK.due("it lies higher", x.thaw(5), 0);
        CHECK.due("it lies in the third row", x.thaw(6), 4);
    }
}
