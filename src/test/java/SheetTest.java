/** Promises 17 sheet, 18 lose, 19 put, 20 cell, 21 copy, 26 fault. */
public final class SheetTest {
    private static final Check CHECK = new Check("SheetTest");

    public static void main(String[] args) {
        sheet();
        lose();
        putAndCell();
        copy();
        fault();
        CHECK.end();
    }

    private static void due(IceYard x, String call, long got, long want, int fault) {
        CHECK.due(call, got, want);
        CHECK.due(call + ": fault()", x.fault(), fault);
    }

    private static void sheet() {
        IceYard x = new IceYard();
        due(x, "sheet -1", x.sheet(-1, 0, 1), IceYard.UNKNOWN, 0);
        due(x, "sheet 4 ahead of lane", x.sheet(4, 3, 61), IceYard.UNKNOWN, 0);
        due(x, "lane -1", x.sheet(0, -1, 1), IceYard.OUTSIDE, 0);
        due(x, "lane 3 ahead of SIZE", x.sheet(0, 3, -1), IceYard.OUTSIDE, 0);
        due(x, "n 61", x.sheet(0, 0, 61), IceYard.OUTSIDE, 0);
        due(x, "n -1", x.sheet(0, 0, -1), -14, 4);
        due(x, "n least", x.sheet(0, 0, Integer.MIN_VALUE), -14, 4);
        due(x, "it has nothing still", x.put(0, 0, 1), -11, 1);
        due(x, "n 60", x.sheet(0, 2, 60), 1, 0);
        due(x, "the last cell", x.put(0, 59, 5), 1, 0);
        due(x, "the last cell is", x.cell(0, 59, 2), 5, 0);
        due(x, "beyond", x.put(0, 60, 5), -13, 3);
        due(x, "refused: nothing changes", x.sheet(0, 0, -1), -14, 4);
        due(x, "the last cell is still", x.cell(0, 59, 2), 5, 0);
        due(x, "a new row", x.sheet(0, 2, 60), 1, 0);
        due(x, "0 at first", x.cell(0, 59, 2), 0, 0);
        due(x, "a row of none", x.sheet(0, 1, 0), 1, 0);
        due(x, "a row of none is something", x.put(0, 0, 1), -13, 3);
        due(x, "of another LANE", x.cell(0, 0, 2), IceYard.LOST, 2);
        due(x, "grown again", x.sheet(0, 1, 3), 1, 0);
        due(x, "0 again", x.cell(0, 2, 1), 0, 0);
    }

    private static void lose() {
        IceYard x = new IceYard();
        CHECK.due("lose -1", x.lose(-1), IceYard.UNKNOWN);
        CHECK.due("lose 4", x.lose(4), IceYard.UNKNOWN);
        CHECK.due("it had nothing", x.lose(0), 0);
        x.sheet(0, 0, 0);
        CHECK.due("it had a row of none", x.lose(0), 1);
        CHECK.due("it had nothing then", x.lose(0), 0);
        x.sheet(0, 1, 2);
        x.put(0, 1, 7);
        x.lose(0);
        CHECK.due("cell", x.cell(0, 1, 1), IceYard.LOST);
        CHECK.due("NULL", x.fault(), 1);
        x.lose(0);
        x.lose(9);
        CHECK.due("lose names no FAULT", x.fault(), 1);
    }

    private static void putAndCell() {
        IceYard x = new IceYard();
        int[] values = {0, 1, -1, 127, 128, -128, -129, 255, 256, 300, 32767, 32768, -32768, -32769, 65535, 70001,
            Integer.MAX_VALUE, Integer.MIN_VALUE};
        for (int lane = 0; lane < 3; lane++) {
            x.sheet(lane, lane, values.length);
            for (int i = 0; i < values.length; i++) {
                int cut = lane == 0 ? (byte) values[i] : lane == 1 ? (short) values[i] : values[i];
                due(x, "put " + values[i], x.put(lane, i, values[i]), 1, 0);
                due(x, "cell of lane " + lane, x.cell(lane, i, lane), cut, 0);
            }
        }
        due(x, "put UNKNOWN", x.put(4, -1, 0), IceYard.UNKNOWN, 0);
        due(x, "put UNKNOWN -1", x.put(-1, 0, 0), IceYard.UNKNOWN, 0);
        due(x, "put NULL ahead of INDEX", x.put(3, -1, 0), -11, 1);
        due(x, "put INDEX", x.put(0, -1, 0), -13, 3);
        due(x, "put INDEX beyond", x.put(0, values.length, 0), -13, 3);
        due(x, "cell UNKNOWN", x.cell(4, 0, 0), IceYard.LOST, 0);
        due(x, "cell OUTSIDE", x.cell(0, 0, 3), IceYard.LOST, 0);
        due(x, "cell OUTSIDE -1", x.cell(3, 0, -1), IceYard.LOST, 0);
        due(x, "cell CAST ahead of INDEX", x.cell(0, -1, 1), IceYard.LOST, 2);
        due(x, "cell NULL ahead of INDEX", x.cell(3, -1, 1), IceYard.LOST, 1);
        due(x, "cell INDEX", x.cell(0, -1, 0), IceYard.LOST, 3);
        due(x, "cell INDEX beyond", x.cell(0, values.length, 0), IceYard.LOST, 3);
    }

    private static IceYard filled() {
        IceYard x = new IceYard();
        for (int k = 0; k < 3; k++) {
            x.sheet(k, k == 2 ? 1 : 0, 5);
            for (int i = 0; i < 5; i++) {
                x.put(k, i, 10 * k + i);
            }
        }
        return x;
    }

    private static void cells(IceYard x, int k, int... want) {
        for (int i = 0; i < want.length; i++) {
            CHECK.due("cell " + i + " of " + k, x.cell(k, i, k == 2 ? 1 : 0), want[i]);
        }
    }

    private static void copy() {
        IceYard x = filled();
        due(x, "copy", x.copy(0, 1, 1, 2, 3), 3, 0);
        cells(x, 1, 10, 11, 1, 2, 3);
        cells(x, 0, 0, 1, 2, 3, 4);
        due(x, "forth in itself", x.copy(0, 0, 0, 1, 4), 4, 0);
        cells(x, 0, 0, 0, 1, 2, 3);
        due(x, "back in itself", x.copy(0, 1, 0, 0, 4), 4, 0);
        cells(x, 0, 0, 1, 2, 3, 3);
        due(x, "none", x.copy(0, 5, 1, 5, 0), 0, 0);
        due(x, "UNKNOWN first", x.copy(-1, 0, 0, 0, 0), IceYard.UNKNOWN, 0);
        due(x, "UNKNOWN other ahead of NULL", x.copy(3, 0, 4, 0, 0), IceYard.UNKNOWN, 0);
        due(x, "NULL the first", x.copy(3, 9, 0, 9, 9), -11, 1);
        due(x, "NULL the other ahead of INDEX", x.copy(0, -1, 3, 0, 0), -11, 1);
        due(x, "CAST ahead of INDEX", x.copy(0, -1, 2, 0, 0), -12, 2);
        due(x, "n below 0", x.copy(0, 0, 1, 0, -1), -13, 3);
        due(x, "i below 0", x.copy(0, -1, 1, 0, 0), -13, 3);
        due(x, "j below 0", x.copy(0, 0, 1, -1, 0), -13, 3);
        due(x, "i beyond", x.copy(0, 6, 1, 0, 0), -13, 3);
        due(x, "j beyond", x.copy(0, 0, 1, 6, 0), -13, 3);
        due(x, "n beyond the first", x.copy(0, 3, 1, 0, 3), -13, 3);
        due(x, "n beyond the other", x.copy(0, 0, 1, 3, 3), -13, 3);
        due(x, "n far beyond", x.copy(0, 1, 1, 1, Integer.MAX_VALUE), -13, 3);
        cells(x, 1, 10, 11, 1, 2, 3);
        cells(x, 2, 20, 21, 22, 23, 24);
    }

    private static void fault() {
        IceYard x = filled();
        CHECK.due("none yet", x.fault(), 0);
        x.put(3, 0, 0);
        CHECK.due("NULL", x.fault(), 1);
        CHECK.due("asked again", x.fault(), 1);
        x.lose(3);
        x.at(0);
        x.many(9);
        x.trace();
        x.push(0, 0);
        x.tell(0);
        x.kick(0);
        x.sand(0, 0, 0, 0);
        CHECK.due("calls that name none leave it", x.fault(), 1);
        x.as(0, 0);
        CHECK.due("as names one, and was refused", x.fault(), 0);
        x.put(0, 7, 0);
        x.put(9, 0, 0);
        CHECK.due("a refused put", x.fault(), 0);
        x.put(0, 7, 0);
        x.put(0, 0, 0);
        CHECK.due("a put that is done", x.fault(), 0);
        x.put(0, 7, 0);
        x.cell(0, 0, 0);
        CHECK.due("a cell that is told", x.fault(), 0);
        x.put(0, 7, 0);
        x.sheet(0, 0, 61);
        CHECK.due("a refused sheet", x.fault(), 0);
        x.put(0, 7, 0);
        x.copy(0, 0, 9, 0, 0);
        CHECK.due("a refused copy", x.fault(), 0);
    }
}
