/** Terms: of several REFUSALS or FAULTS the first in the order in which a call's line tells them. */
public final class OrderTest {
    private static final Check CHECK = new Check("OrderTest");
    private static final int NULL = -11, CAST = -12, INDEX = -13, SIZE = -14;
    private static final int LEAST = Integer.MIN_VALUE, MOST = Integer.MAX_VALUE;

    public static void main(String[] args) {
        yard();
        pushes();
        full();
        withoutAYard();
        searches();
        trails();
        sheets();
        copy();
        parts();
        CHECK.end();
    }

    /** A call that names FAULTS: its answer, and what fault() tells then, where another one was told ahead of it. */
    private static void due(IceYard x, String call, long got, long want, int fault) {
        CHECK.due(call, got, want);
        CHECK.due(call + ": fault()", x.fault(), fault);
    }

    /** SHEET 0 has 3 bytes, SHEET 1 nothing, SHEET 2 a row of no ints, SHEET 3 3 ints; fault() tells 4. */
    private static IceYard someSheets() {
        IceYard x = new IceYard();
        x.sheet(0, 0, 3);
        x.sheet(2, 2, 0);
        x.sheet(3, 2, 3);
        x.sheet(0, 0, -1);
        CHECK.due("a FAULT ahead", x.fault(), 4);
        return x;
    }

    private static void yard() {
        yard("UNKNOWN, OUTSIDE, SIZE, INDEX", 4, 3, -1, -1, IceYard.UNKNOWN, 0);
        yard("UNKNOWN, OUTSIDE", -1, -1, 0, 0, IceYard.UNKNOWN, 0);
        yard("UNKNOWN, SIZE", 4, 0, 0, -1, IceYard.UNKNOWN, 0);
        yard("UNKNOWN, INDEX", 4, 0, 9, 9, IceYard.UNKNOWN, 0);
        yard("OUTSIDE, NULL", 1, 3, 0, 0, IceYard.OUTSIDE, 0);
        yard("OUTSIDE, CAST, SIZE", 0, 3, 0, -1, IceYard.OUTSIDE, 0);
        yard("OUTSIDE, INDEX", 0, -1, 4, 0, IceYard.OUTSIDE, 0);
        yard("CAST, SIZE", 0, 1, 0, -1, CAST, 2);
        yard("CAST, INDEX", 0, 2, 4, 0, CAST, 2);
        yard("CAST, no TEXT", 0, 1, 0, 3, CAST, 2);
        yard("nothing is no CAST: NULL, SIZE", 1, 0, 0, -1, NULL, 1);
        yard("nothing is no CAST: NULL, INDEX", 1, 1, -1, 9, NULL, 1);
        yard("nothing is no CAST: NULL, no TEXT", 1, 2, 0, 0, NULL, 1);
        yard("SIZE, INDEX below", 0, 0, -1, -1, SIZE, 4);
        yard("SIZE, INDEX beyond", 0, 0, 4, LEAST, SIZE, 4);
        yard("INDEX, no TEXT", 0, 0, 0, 4, INDEX, 3);
        yard("INDEX, none is taken", 0, 0, 4, 0, INDEX, 3);
        yard("INDEX below, none is taken", 0, 0, -1, 0, INDEX, 3);
        yard("INDEX of a row that has none", 2, 2, 0, 1, INDEX, 3);
        yard("INDEX of a row that has none, none is taken", 2, 2, 1, 0, INDEX, 3);
        yard("no TEXT of a row that has none", 2, 2, 0, 0, -100, 0);
        yard("no TEXT", 0, 0, 0, 3, -100, 0);
        yard("no TEXT, none left", 0, 0, 3, 0, -100, 0);
    }

    private static void yard(String call, int sheet, int lane, int i, int n, int want, int fault) {
        IceYard x = someSheets();
        due(x, "yard " + call, x.yard(sheet, lane, i, n), want, fault);
    }

    private static void pushes() {
        IceYard x = Check.yardOf("i34;o..c;o##.;l..#");
        x.push(0, 1);
        CHECK.due("ofBlock UNKNOWN, OUTSIDE", x.ofBlock(3, 2), IceYard.UNKNOWN);
        CHECK.due("ofBlock OUTSIDE of one that is GONE", x.ofBlock(0, 2), IceYard.OUTSIDE);
        for (int k : new int[] {LEAST, -1, 3, MOST}) {
            CHECK.due("push UNKNOWN, OUTSIDE " + k, x.push(k, 4), IceYard.UNKNOWN);
            CHECK.due("would UNKNOWN, OUTSIDE " + k, x.would(k, -1), IceYard.UNKNOWN);
            CHECK.due("tracks UNKNOWN, OUTSIDE " + k, x.tracks(k, -1), IceYard.LOST);
        }
        for (int d : new int[] {LEAST, -1, 4, MOST}) {
            // 0 is GONE, 2 is stuck to the left.
            CHECK.due("push OUTSIDE, lies nowhere " + d, x.push(0, d), IceYard.OUTSIDE);
            CHECK.due("push OUTSIDE, else it would go " + d, x.push(2, d), IceYard.OUTSIDE);
            CHECK.due("would OUTSIDE, lies nowhere " + d, x.would(0, d), IceYard.OUTSIDE);
            CHECK.due("tracks OUTSIDE " + d, x.tracks(2, d), IceYard.LOST);
        }
        CHECK.due("STATE: it lies nowhere", x.push(0, 0), IceYard.STATE);
        CHECK.due("STATE: nothing goes", x.push(2, 3), IceYard.STATE);
        CHECK.due("PUSHES", x.many(4), 1);
        CHECK.due("keep UNKNOWN", x.keep(3), IceYard.UNKNOWN);
        CHECK.due("back UNKNOWN", x.back(3), IceYard.UNKNOWN);
        CHECK.due("back STATE", x.back(0), IceYard.STATE);
    }

    private static void full() {
        IceYard x = Check.yardOf("i34;o..c;##..;l..#");
        x.push(0, 1);
        for (int i = 1; i < 199; i++) {
            x.push(1, i % 2 == 1 ? 1 : 3);
        }
        CHECK.due("the 200th is taken", x.push(1, 1), 10);
        CHECK.due("PUSHES", x.many(4), 200);
        CHECK.due("FULL", x.push(1, 3), IceYard.FULL);
        CHECK.due("UNKNOWN, FULL", x.push(2, 3), IceYard.UNKNOWN);
        CHECK.due("UNKNOWN, OUTSIDE, FULL", x.push(-1, 4), IceYard.UNKNOWN);
        CHECK.due("OUTSIDE, FULL", x.push(1, 4), IceYard.OUTSIDE);
        CHECK.due("OUTSIDE, lies nowhere, FULL", x.push(0, -1), IceYard.OUTSIDE);
        CHECK.due("lies nowhere, FULL", x.push(0, 1), IceYard.STATE);
        CHECK.due("nothing goes, FULL", x.push(1, 1), IceYard.STATE);
        CHECK.due("PUSHES still", x.many(4), 200);
        CHECK.due("it lies as it lay", x.ofBlock(1, 1), 10);
    }

    private static void withoutAYard() {
        IceYard x = new IceYard();
        CHECK.due("push UNKNOWN, OUTSIDE", x.push(0, 4), IceYard.UNKNOWN);
        CHECK.due("ofBlock UNKNOWN, OUTSIDE", x.ofBlock(0, 2), IceYard.UNKNOWN);
        CHECK.due("keep UNKNOWN, STATE", x.keep(3), IceYard.UNKNOWN);
        CHECK.due("keep UNKNOWN, STATE, below", x.keep(-1), IceYard.UNKNOWN);
        CHECK.due("keep STATE", x.keep(2), IceYard.STATE);
        CHECK.due("back UNKNOWN, STATE", x.back(3), IceYard.UNKNOWN);
        CHECK.due("back UNKNOWN, STATE, below", x.back(-1), IceYard.UNKNOWN);
        CHECK.due("back STATE", x.back(2), IceYard.STATE);
        CHECK.due("as UNKNOWN, OUTSIDE", x.as(0, 3), IceYard.UNKNOWN);
        CHECK.due("sand UNKNOWN, OUTSIDE", x.sand(0, 0, 3, 0), IceYard.UNKNOWN);
        CHECK.due("rows OUTSIDE, UNKNOWN", x.rows(1, 1, 1), IceYard.OUTSIDE);
        CHECK.due("rows UNKNOWN", x.rows(1, 0, 1), IceYard.UNKNOWN);
    }

    private static void searches() {
        IceYard x = Check.yardOf("i35;sdcld;.c...;.....");
        CHECK.due("fewest SPENT", x.fewest(0, -1), IceYard.SPENT);
        CHECK.due("fewest SPENT, there are fewer", x.fewest(0, MOST), IceYard.SPENT);
        CHECK.due("fewest GATE UNKNOWN, SPENT", x.fewest(2, -1), IceYard.UNKNOWN);
        CHECK.due("fewest q UNKNOWN, SPENT", x.fewest(0, -2), IceYard.UNKNOWN);
        CHECK.due("fewest both UNKNOWN", x.fewest(-1, LEAST), IceYard.UNKNOWN);
    }

    private static void trails() {
        IceYard x = Check.yardOf("i34;o.a#;####;####");
        CHECK.due("rows n OUTSIDE, q UNKNOWN", x.rows(4, 0, 4), IceYard.OUTSIDE);
        CHECK.due("rows n OUTSIDE below, q UNKNOWN", x.rows(0, 0, 0), IceYard.OUTSIDE);
        CHECK.due("rows set OUTSIDE, q UNKNOWN", x.rows(1, 1 << 12, 1), IceYard.OUTSIDE);
        CHECK.due("rows set OUTSIDE below, q UNKNOWN", x.rows(1, -1, -2), IceYard.OUTSIDE);
        CHECK.due("rows q UNKNOWN, there is none", x.rows(1, 0, 1), IceYard.UNKNOWN);
        CHECK.due("rows q UNKNOWN, there is one", x.rows(1, 6, 1), IceYard.UNKNOWN);
        CHECK.due("sand BLOCK UNKNOWN, n OUTSIDE", x.sand(1, 0, 0, 0), IceYard.UNKNOWN);
        CHECK.due("sand GATE UNKNOWN, n OUTSIDE", x.sand(0, 2, 3, 0), IceYard.UNKNOWN);
        CHECK.due("sand q UNKNOWN, n OUTSIDE", x.sand(0, 0, 3, 2), IceYard.UNKNOWN);
        CHECK.due("sand q UNKNOWN, n OUTSIDE below", x.sand(0, 0, 0, -2), IceYard.UNKNOWN);
        x.push(0, 1);
        CHECK.due("sand GATE UNKNOWN, lies nowhere", x.sand(0, 2, 1, -1), IceYard.UNKNOWN);
        CHECK.due("sand q UNKNOWN, lies nowhere", x.sand(0, 0, 1, 2), IceYard.UNKNOWN);
        CHECK.due("sand n OUTSIDE, lies nowhere", x.sand(0, 0, 0, -1), IceYard.OUTSIDE);
        CHECK.due("sand lies nowhere", x.sand(0, 0, 1, -1), IceYard.NONE);
    }

    private static void sheets() {
        IceYard x = someSheets();
        due(x, "sheet UNKNOWN, OUTSIDE, SIZE", x.sheet(4, 3, -1), IceYard.UNKNOWN, 0);
        due(x, "sheet UNKNOWN, n OUTSIDE", x.sheet(-1, 0, 61), IceYard.UNKNOWN, 0);
        due(x, "sheet UNKNOWN, SIZE", x.sheet(4, 0, -1), IceYard.UNKNOWN, 0);
        due(x, "sheet OUTSIDE, SIZE", x.sheet(0, 3, -1), IceYard.OUTSIDE, 0);
        due(x, "sheet OUTSIDE below, SIZE", x.sheet(0, -1, LEAST), IceYard.OUTSIDE, 0);
        due(x, "sheet SIZE", x.sheet(0, 0, -1), SIZE, 4);
        due(x, "sheet n OUTSIDE", x.sheet(0, 0, 61), IceYard.OUTSIDE, 0);
        due(x, "put NULL, INDEX", x.put(1, -1, 0), NULL, 1);
        due(x, "put UNKNOWN, INDEX", x.put(4, -1, 0), IceYard.UNKNOWN, 0);
        due(x, "put INDEX", x.put(0, 3, 0), INDEX, 3);
        due(x, "cell UNKNOWN, OUTSIDE, INDEX", x.cell(4, -1, 3), IceYard.LOST, 0);
        due(x, "cell CAST, INDEX", x.cell(0, 3, 1), IceYard.LOST, 2);
        due(x, "cell UNKNOWN, INDEX", x.cell(-1, 3, 0), IceYard.LOST, 0);
        due(x, "cell nothing is no CAST: NULL, INDEX", x.cell(1, -1, 2), IceYard.LOST, 1);
        due(x, "cell OUTSIDE, CAST, INDEX", x.cell(0, 3, 3), IceYard.LOST, 0);
        due(x, "cell INDEX", x.cell(0, 3, 0), IceYard.LOST, 3);
        due(x, "cell OUTSIDE, NULL", x.cell(1, 0, -1), IceYard.LOST, 0);
    }

    private static void copy() {
        IceYard x = someSheets();
        due(x, "copy UNKNOWN, INDEX", x.copy(4, -1, 0, -1, -1), IceYard.UNKNOWN, 0);
        due(x, "copy NULL the first, INDEX", x.copy(1, -1, 0, -1, -1), NULL, 1);
        due(x, "copy NULL the first, UNKNOWN the other", x.copy(1, 0, 4, 0, 0), IceYard.UNKNOWN, 0);
        due(x, "copy NULL the other, INDEX", x.copy(0, -1, 1, -1, -1), NULL, 1);
        due(x, "copy UNKNOWN the first, NULL the other", x.copy(-1, 0, 1, 0, 0), IceYard.UNKNOWN, 0);
        due(x, "copy NULL both", x.copy(1, 9, 1, 9, 9), NULL, 1);
        due(x, "copy CAST, INDEX of the first", x.copy(0, 4, 3, 0, 0), CAST, 2);
        due(x, "copy CAST, INDEX of the other", x.copy(0, 0, 3, 4, 0), CAST, 2);
        due(x, "copy CAST, n below 0", x.copy(0, 0, 3, 0, -1), CAST, 2);
        due(x, "copy CAST, none", x.copy(0, 0, 2, 0, 0), CAST, 2);
        due(x, "copy INDEX, not SIZE", x.copy(0, 0, 0, 0, -1), INDEX, 3);
        due(x, "copy none to a row that has none", x.copy(3, 3, 2, 0, 0), 0, 0);
        due(x, "copy one to a row that has none", x.copy(3, 0, 2, 0, 1), INDEX, 3);
    }

    private static void parts() {
        IceYard x = Check.yardOf("i33;old;...;...");
        x.put(3, 15, 0);
        CHECK.due("a FAULT ahead", x.fault(), 3);
        due(x, "as UNKNOWN, OUTSIDE", x.as(3, 3), IceYard.UNKNOWN, 0);
        due(x, "as CAST", x.as(0, 1), CAST, 2);
        due(x, "as OUTSIDE, it is none", x.as(0, 3), IceYard.OUTSIDE, 0);
        due(x, "as CAST again", x.as(1, 2), CAST, 2);
        due(x, "as UNKNOWN, it is none", x.as(-1, 2), IceYard.UNKNOWN, 0);
        due(x, "as 1", x.as(1, 1), 1, 0);
    }
}
