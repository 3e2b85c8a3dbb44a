/** Promises 17 sheet, 18 lose, 19 put, 20 cell, 21 copy, 26 fault. */
public final class SheetTest {
    private static final Check CHECK = new Check("SheetTest");

    public static void main(String[] args) {
        sheet();
        lose();
        putAndCell();
        copy();
        copyOfAllCells();
        cutToTheLane();
        everySheet();
        fault();
        faultOfEachCall();
        CHECK.end();
    }

    private static void due(IceYard x, String call, long got, long want, int fault) {
        CHECK.due(call, got, want);
        CHECK.due(call + ": fault()", x.fault(), fault);
    }

    private static void sheet() {
        IceYard x = new IceYard();
        due(x, "sheet -1", x.sheet(-1, 0, 1), IceYard.UNKNOWN, 0);
        due(x, "sheet 4 ahead of lane", x.sheet(4, 3, 61), IceYard.UNKNOWN, 0);
        due(x, "lane -1", x.sheet(0, -1, 1), IceYard.OUTSIDE, 0);
        due(x, "lane 3 ahead of SIZE", x.sheet(0, 3, -1), IceYard.OUTSIDE, 0);
        due(x, "n 61", x.sheet(0, 0, 61), IceYard.OUTSIDE, 0);
        due(x, "n -1", x.sheet(0, 0, -1), -14, 4);
        due(x, "n least", x.sheet(0, 0, Integer.MIN_VALUE), -14, 4);
        due(x, "it has nothing still", x.put(0, 0, 1), -11, 1);
        due(x, "n 60", x.sheet(0, 2, 60), 1, 0);
        due(x, "the last cell", x.put(0, 59, 5), 1, 0);
        due(x, "the last cell is", x.cell(0, 59, 2), 5, 0);
        due(x, "beyond", x.put(0, 60, 5), -13, 3);
        due(x, "refused: nothing changes", x.sheet(0, 0, -1), -14, 4);
        due(x, "the last cell is still", x.cell(0, 59, 2), 5, 0);
        due(x, "a new row", x.sheet(0, 2, 60), 1, 0);
        due(x, "0 at first", x.cell(0, 59, 2), 0, 0);
        due(x, "a row of none", x.sheet(0, 1, 0), 1, 0);
        due(x, "a row of none is something", x.put(0, 0, 1), -13, 3);
        due(x, "of another LANE", x.cell(0, 0, 2), IceYard.LOST, 2);
        due(x, "grown again", x.sheet(0, 1, 3), 1, 0);
        due(x, "0 again", x.cell(0, 2, 1), 0, 0);
    }

    private static void lose() {
        IceYard x = new IceYard();
        CHECK.due("lose -1", x.lose(-1), IceYard.UNKNOWN);
        CHECK.due("lose 4", x.lose(4), IceYard.UNKNOWN);
        CHECK.due("it had nothing", x.lose(0), 0);
        x.sheet(0, 0, 0);
        CHECK.due("it had a row of none", x.lose(0), 1);
        CHECK.due("it had nothing then", x.lose(0), 0);
        x.sheet(0, 1, 2);
        x.put(0, 1, 7);
        x.lose(0);
        CHECK.due("cell", x.cell(0, 1, 1), IceYard.LOST);
        CHECK.due("NULL", x.fault(), 1);
        x.lose(0);
        x.lose(9);
        CHECK.due("lose names no FAULT", x.fault(), 1);
    }

    private static void putAndCell() {
        IceYard x = new IceYard();
        int[] values = {0, 1, -1, 127, 128, -128, -129, 255, 256, 300, 32767, 32768, -32768, -32769, 65535, 70001,
            Integer.MAX_VALUE, Integer.MIN_VALUE};
        for (int lane = 0; lane < 3; lane++) {
            x.sheet(lane, lane, values.length);
            for (int i = 0; i < values.length; i++) {
                int cut = lane == 0 ? (byte) values[i] : lane == 1 ? (short) values[i] : values[i];
                due(x, "put " + values[i], x.put(lane, i, values[i]), 1, 0);
                due(x, "cell of lane " + lane, x.cell(lane, i, lane), cut, 0);
            }
        }
        due(x, "put UNKNOWN", x.put(4, -1, 0), IceYard.UNKNOWN, 0);
        due(x, "put UNKNOWN -1", x.put(-1, 0, 0), IceYard.UNKNOWN, 0);
        due(x, "put NULL ahead of INDEX", x.put(3, -1, 0), -11, 1);
        due(x, "put INDEX", x.put(0, -1, 0), -13, 3);
        due(x, "put INDEX beyond", x.put(0, values.length, 0), -13, 3);
        due(x, "cell UNKNOWN", x.cell(4, 0, 0), IceYard.LOST, 0);
        due(x, "cell OUTSIDE", x.cell(0, 0, 3), IceYard.LOST, 0);
        due(x, "cell OUTSIDE -1", x.cell(3, 0, -1), IceYard.LOST, 0);
        due(x, "cell CAST ahead of INDEX", x.cell(0, -1, 1), IceYard.LOST, 2);
        due(x, "cell NULL ahead of INDEX", x.cell(3, -1, 1), IceYard.LOST, 1);
        due(x, "cell INDEX", x.cell(0, -1, 0), IceYard.LOST, 3);
        due(x, "cell INDEX beyond", x.cell(0, values.length, 0), IceYard.LOST, 3);
    }

    private static IceYard filled() {
        IceYard x = new IceYard();
        for (int k = 0; k < 3; k++) {
            x.sheet(k, k == 2 ? 1 : 0, 5);
            for (int i = 0; i < 5; i++) {
                x.put(k, i, 10 * k + i);
            }
        }
        return x;
    }

    private static void cells(IceYard x, int k, int... want) {
        for (int i = 0; i < want.length; i++) {
            CHECK.due("cell " + i + " of " + k, x.cell(k, i, k == 2 ? 1 : 0), want[i]);
        }
    }

    private static void copy() {
        IceYard x = filled();
        due(x, "copy", x.copy(0, 1, 1, 2, 3), 3, 0);
        cells(x, 1, 10, 11, 1, 2, 3);
        cells(x, 0, 0, 1, 2, 3, 4);
        due(x, "forth in itself", x.copy(0, 0, 0, 1, 4), 4, 0);
        cells(x, 0, 0, 0, 1, 2, 3);
        due(x, "back in itself", x.copy(0, 1, 0, 0, 4), 4, 0);
        cells(x, 0, 0, 1, 2, 3, 3);
        due(x, "none", x.copy(0, 5, 1, 5, 0), 0, 0);
        due(x, "UNKNOWN first", x.copy(-1, 0, 0, 0, 0), IceYard.UNKNOWN, 0);
        due(x, "UNKNOWN other ahead of NULL", x.copy(3, 0, 4, 0, 0), IceYard.UNKNOWN, 0);
        due(x, "NULL the first", x.copy(3, 9, 0, 9, 9), -11, 1);
        due(x, "NULL the other ahead of INDEX", x.copy(0, -1, 3, 0, 0), -11, 1);
        due(x, "CAST ahead of INDEX", x.copy(0, -1, 2, 0, 0), -12, 2);
        due(x, "n below 0", x.copy(0, 0, 1, 0, -1), -13, 3);
        due(x, "i below 0", x.copy(0, -1, 1, 0, 0), -13, 3);
        due(x, "j below 0", x.copy(0, 0, 1, -1, 0), -13, 3);
        due(x, "i beyond", x.copy(0, 6, 1, 0, 0), -13, 3);
        due(x, "j beyond", x.copy(0, 0, 1, 6, 0), -13, 3);
        due(x, "n beyond the first", x.copy(0, 3, 1, 0, 3), -13, 3);
        due(x, "n beyond the other", x.copy(0, 0, 1, 3, 3), -13, 3);
        due(x, "n far beyond", x.copy(0, 1, 1, 1, Integer.MAX_VALUE), -13, 3);
        cells(x, 1, 10, 11, 1, 2, 3);
        cells(x, 2, 20, 21, 22, 23, 24);
    }

    private static void fault() {
        IceYard x = filled();
        CHECK.due("none yet", x.fault(), 0);
        x.put(3, 0, 0);
        CHECK.due("NULL", x.fault(), 1);
        CHECK.due("asked again", x.fault(), 1);
        x.lose(3);
        x.at(0);
        x.many(9);
        x.trace();
        x.push(0, 0);
        x.tell(0);
        x.kick(0);
        x.sand(0, 0, 0, 0);
        CHECK.due("calls that name none leave it", x.fault(), 1);
        x.as(0, 0);
        CHECK.due("as names one, and was refused", x.fault(), 0);
        x.put(0, 7, 0);
        x.put(9, 0, 0);
        CHECK.due("a refused put", x.fault(), 0);
        x.put(0, 7, 0);
        x.put(0, 0, 0);
        CHECK.due("a put that is done", x.fault(), 0);
        x.put(0, 7, 0);
        x.cell(0, 0, 0);
        CHECK.due("a cell that is told", x.fault(), 0);
        x.put(0, 7, 0);
        x.sheet(0, 0, 61);
        CHECK.due("a refused sheet", x.fault(), 0);
        x.put(0, 7, 0);
        x.copy(0, 0, 9, 0, 0);
        CHECK.due("a refused copy", x.fault(), 0);
    }

    /** 60 cells, and none. */
    private static void copyOfAllCells() {
        IceYard x = new IceYard();
        x.sheet(0, 1, 60);
        x.sheet(3, 1, 60);
        x.sheet(2, 1, 0);
        for (int i = 0; i < 60; i++) {
            x.put(0, i, 1000 * i - 30000);
        }
        due(x, "all to another one", x.copy(0, 0, 3, 0, 60), 60, 0);
        due(x, "one too many", x.copy(0, 0, 3, 0, 61), -13, 3);
        due(x, "all, one farther on", x.copy(0, 1, 3, 0, 60), -13, 3);
        due(x, "all, to one farther on", x.copy(0, 0, 3, 1, 60), -13, 3);
        due(x, "all but one, farther on in itself", x.copy(0, 0, 0, 1, 59), 59, 0);
        for (int i = 0; i < 60; i++) {
            CHECK.due("copied " + i, x.cell(3, i, 1), 1000 * i - 30000);
            CHECK.due("moved " + i, x.cell(0, i, 1), 1000 * Math.max(0, i - 1) - 30000);
        }
        due(x, "none from the end to the end", x.copy(0, 60, 3, 60, 0), 0, 0);
        due(x, "none from beyond", x.copy(0, 61, 3, 60, 0), -13, 3);
        due(x, "none to beyond", x.copy(0, 60, 3, 61, 0), -13, 3);
        due(x, "the last", x.copy(0, 59, 3, 0, 1), 1, 0);
        due(x, "to the last", x.copy(0, 0, 3, 59, 1), 1, 0);
        due(x, "one behind the last", x.copy(0, 60, 3, 0, 1), -13, 3);
        due(x, "none to a row that has none", x.copy(0, 0, 2, 0, 0), 0, 0);
        due(x, "none of a row that has none", x.copy(2, 0, 2, 0, 0), 0, 0);
        due(x, "one of a row that has none", x.copy(2, 0, 0, 0, 1), -13, 3);
        due(x, "to a row that has none, farther on", x.copy(0, 0, 2, 1, 0), -13, 3);
        for (int least : new int[] {Integer.MIN_VALUE, -1}) {
            due(x, "i " + least, x.copy(0, least, 3, 0, 1), -13, 3);
            due(x, "j " + least, x.copy(0, 0, 3, least, 1), -13, 3);
            due(x, "n " + least, x.copy(0, 1, 3, 1, least), -13, 3);
        }
        int most = Integer.MAX_VALUE;
        due(x, "i and n the most", x.copy(0, most, 3, 0, most), -13, 3);
        due(x, "j and n the most", x.copy(0, 0, 3, most, most), -13, 3);
        due(x, "all the most", x.copy(0, most, 3, most, most), -13, 3);
        CHECK.due("none of them changed it", x.cell(3, 1, 1), -29000);
    }

    /** The numbers themselves: the last that fits a LANE and the first that does not. */
    private static void cutToTheLane() {
        IceYard x = new IceYard();
        for (int lane = 0; lane < 3; lane++) {
            x.sheet(lane, lane, 1);
        }
        long[][] cut = {{127, 127, 127, 127}, {128, -128, 128, 128}, {-128, -128, -128, -128},
            {-129, 127, -129, -129}, {255, -1, 255, 255}, {256, 0, 256, 256}, {-256, 0, -256, -256},
            {32767, -1, 32767, 32767}, {32768, 0, -32768, 32768}, {-32768, 0, -32768, -32768},
            {-32769, -1, 32767, -32769}, {65535, -1, -1, 65535}, {65536, 0, 0, 65536}, {70001, 113, 4465, 70001},
            {2147483647, -1, -1, 2147483647}, {-2147483648, 0, 0, -2147483648}, {0, 0, 0, 0}, {-1, -1, -1, -1}};
        for (long[] row : cut) {
            for (int lane = 0; lane < 3; lane++) {
                due(x, "put " + row[0], x.put(lane, 0, (int) row[0]), 1, 0);
                due(x, row[0] + " cut to lane " + lane, x.cell(lane, 0, lane), row[lane + 1], 0);
            }
        }
    }

    /** Each SHEET by itself: the four that there are, and none beside them. */
    private static void everySheet() {
        IceYard x = new IceYard();
        for (int k = 0; k < 4; k++) {
            CHECK.due("nothing at first: lose " + k, x.lose(k), 0);
            due(x, "nothing at first: put " + k, x.put(k, 0, 1), -11, 1);
            due(x, "nothing at first: cell " + k, x.cell(k, 0, 0), IceYard.LOST, 1);
            due(x, "nothing at first: yard " + k, x.yard(k, 0, 0, 0), -11, 1);
            due(x, "sheet " + k, x.sheet(k, k % 3, k + 1), 1, 0);
            due(x, "its last cell", x.put(k, k, 50 + k), 1, 0);
            due(x, "none behind it", x.put(k, k + 1, 1), -13, 3);
        }
        for (int k = 0; k < 4; k++) {
            due(x, "cell of " + k, x.cell(k, k, k % 3), 50 + k, 0);
            due(x, "cell behind it", x.cell(k, k + 1, k % 3), IceYard.LOST, 3);
            for (int lane = 0; lane < 3; lane++) {
                due(x, "LANE", x.cell(k, 0, lane), lane != k % 3 ? IceYard.LOST : k == 0 ? 50 : 0,
                    lane == k % 3 ? 0 : 2);
            }
        }
        for (int k = 0; k < 4; k++) {
            for (int other = 0; other < 4; other++) {
                boolean alike = k % 3 == other % 3;
                due(x, "copy " + k + " to " + other, x.copy(k, 0, other, 0, 0), alike ? 0 : -12, alike ? 0 : 2);
            }
        }
        CHECK.due("lose 2", x.lose(2), 1);
        CHECK.due("lose 2 again", x.lose(2), 0);
        due(x, "3 has still", x.cell(3, 3, 0), 53, 0);
        due(x, "1 has still", x.cell(1, 1, 1), 51, 0);
        for (int k : new int[] {Integer.MIN_VALUE, -1, 4, Integer.MAX_VALUE}) {
            due(x, "sheet " + k, x.sheet(k, 0, 1), IceYard.UNKNOWN, 0);
            CHECK.due("lose " + k, x.lose(k), IceYard.UNKNOWN);
            due(x, "put " + k, x.put(k, 0, 1), IceYard.UNKNOWN, 0);
            due(x, "cell " + k, x.cell(k, 0, 0), IceYard.LOST, 0);
            due(x, "yard " + k, x.yard(k, 0, 0, 0), IceYard.UNKNOWN, 0);
            due(x, "copy of " + k, x.copy(k, 0, 0, 0, 0), IceYard.UNKNOWN, 0);
            due(x, "copy to " + k, x.copy(0, 0, k, 0, 0), IceYard.UNKNOWN, 0);
        }
    }

    /** fault() after each call that names FAULTS, done and refused; and after each that names none. */
    private static void faultOfEachCall() {
        IceYard x = Check.yardOf("i34;o..a;l..c;....");
        x.sheet(0, 0, 1);
        afterAFault(x, "yard", Check.lay(x, "i34;o..a;l..c;...."), 2, 0);
        afterAFault(x, "yard refused", x.yard(4, 0, 0, 0), IceYard.UNKNOWN, 0);
        afterAFault(x, "yard no TEXT", x.yard(3, 2, 1, 1), -100, 0);
        afterAFault(x, "sheet", x.sheet(1, 0, 1), 1, 0);
        afterAFault(x, "sheet refused", x.sheet(1, 3, 1), IceYard.OUTSIDE, 0);
        afterAFault(x, "put", x.put(0, 0, 1), 1, 0);
        afterAFault(x, "put refused", x.put(4, 0, 1), IceYard.UNKNOWN, 0);
        afterAFault(x, "cell", x.cell(0, 0, 0), 1, 0);
        afterAFault(x, "cell refused", x.cell(4, 0, 0), IceYard.LOST, 0);
        afterAFault(x, "cell refused by its LANE", x.cell(0, 0, 3), IceYard.LOST, 0);
        afterAFault(x, "copy", x.copy(0, 0, 1, 0, 1), 1, 0);
        afterAFault(x, "copy refused", x.copy(0, 0, 4, 0, 1), IceYard.UNKNOWN, 0);
        afterAFault(x, "as", x.as(1, 1), 1, 0);
        afterAFault(x, "as refused", x.as(2, 1), IceYard.UNKNOWN, 0);
        x.put(0, 1, 0);
        long[] calls = {x.at(0), x.at(-1), x.ofBlock(0, 1), x.ofBlock(9, 1), x.would(0, 1), x.would(9, 1),
            x.tracks(0, 1), x.tracks(9, 1), x.push(1, 1), x.push(1, 1), x.push(9, 1), x.undo(1), x.undo(1), x.keep(0),
            x.keep(3), x.back(0), x.back(1), x.fewest(0, -1), x.fewest(2, -1), x.won(0), x.won(2), x.first(0),
            x.first(2), x.rows(1, 0, -1), x.rows(0, 0, -1), x.sand(0, 0, 1, -1), x.sand(9, 0, 1, -1), x.thaw(0),
            x.thaw(-1), x.lose(2), x.lose(1), x.lose(4), x.tell(0), x.tell(9), x.kick(0), x.kick(9), x.trace(),
            x.many(0), x.many(-1)};
        CHECK.due("none of " + calls.length + " calls that name no FAULT changes it", x.fault(), 3);
        CHECK.due("nor does fault()", x.fault(), 3);
    }

    /** The call has been made: its answer and fault() then; a FAULT is made ahead of the next one. */
    private static void afterAFault(IceYard x, String call, long got, long want, int fault) {
        due(x, call, got, want, fault);
        due(x, "a FAULT ahead of the next call", x.put(0, 1, 0), -13, 3);
    }
}
