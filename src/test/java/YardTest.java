/** Promises 2 yard, 3 at, 4 ofBlock, 27 many. */
public final class YardTest {
    private static final Check CHECK = new Check("YardTest");
    private static final String FULL_TEXT = "i35;l.o.a;.#s#.;d..cb";

    public static void main(String[] args) {
        texts();
        firstFaults();
        limits();
        refusals();
        allAnew();
        cellsAnew();
        rowsOfAText();
        sheetsAfterwards();
        lanes();
        at();
        ofBlock();
        many();
        CHECK.end();
    }

    private static void text(String text, int want) {
        CHECK.due("yard of " + text, Check.lay(new IceYard(), text), want);
    }

    private static void texts() {
        text("i33;...;...;...", 0);
        text("i33;###;###;###", 0);
        text("i33;aaa;bab;bbb", 0);
        text("i66;oooldd;......;......;......;......;......", 6);
        text("i63;o..;...;...;...;...;..l", 2);
        text("i36;......;......;.....d", 1);
    }

    private static void firstFaults() {
        text("", -100);
        text("I33;...;...;...", -100);
        text("i", -101);
        text("i23;...;...", -101);
        text("i73;...", -101);
        text("i3", -102);
        text("i32;", -102);
        text("i37;", -102);
        text("i3;", -102);
        text("i33", -103);
        text("i33.", -103);
        text("i33;", -104);
        text("i33;;", -104);
        text("i33;..", -106);
        text("i33;...", -107);
        text("i33;....", -107);
        text("i33;..;", -106);
        text("i33;...;...;..", -114);
        text("i33;...;...;...;", -115);
        text("i33;...;...;....", -115);
        text("i33;..x;...;...", -106);
        text("i33;..O;...;...", -106);
        text("i33;..e;...;...", -106);
        text("i33;.. ;...;...", -106);
        for (int i = 0; i < FULL_TEXT.length(); i++) {
            text(FULL_TEXT.substring(0, i), -100 - i);
            text(FULL_TEXT.substring(0, i) + "?" + FULL_TEXT.substring(i), -100 - i);
        }
        text(FULL_TEXT, 3);
        text(FULL_TEXT + "?", -121);
    }

    private static void limits() {
        text("i33;cc.;cc.;...", 0);
        text("i33;ccc;cc.;...", -109);
        text("i33;cc.;cc.;..c", -114);
        text("i33;old;old;...", 6);
        text("i33;old;old;..l", -114);
        text("i33;ooo;ooo;o..", -112);
        text("i34;oooo;oocc;ccoc", -116);
        text("i34;oooo;oocc;cc.c", -117);
    }

    private static void refusals() {
        IceYard x = new IceYard();
        x.sheet(0, 0, 15);
        x.lose(1);
        due(x, "sheet -1", x.yard(-1, 0, 0, 0), IceYard.UNKNOWN, 0);
        due(x, "sheet 4 ahead of lane", x.yard(4, 3, 0, 0), IceYard.UNKNOWN, 0);
        due(x, "lane -1", x.yard(0, -1, 0, 0), IceYard.OUTSIDE, 0);
        due(x, "lane 3 ahead of NULL", x.yard(1, 3, 0, 0), IceYard.OUTSIDE, 0);
        due(x, "CAST ahead of SIZE", x.yard(0, 1, 0, -1), -12, 2);
        due(x, "nothing is no CAST", x.yard(1, 1, 0, -1), -11, 1);
        due(x, "SIZE ahead of INDEX", x.yard(0, 0, -1, -1), -14, 4);
        due(x, "i below 0", x.yard(0, 0, -1, 1), -13, 3);
        due(x, "i below 0, none taken", x.yard(0, 0, -1, 0), -13, 3);
        due(x, "i beyond, none taken", x.yard(0, 0, 16, 0), -13, 3);
        due(x, "i at the end, none taken", x.yard(0, 0, 15, 0), -100, 0);
        due(x, "too many", x.yard(0, 0, 1, 15), -13, 3);
        due(x, "far too many", x.yard(0, 0, 1, Integer.MAX_VALUE), -13, 3);
        due(x, "far beyond", x.yard(0, 0, Integer.MAX_VALUE, Integer.MAX_VALUE), -13, 3);
        due(x, "refused after a FAULT", x.yard(4, 0, 0, 0), IceYard.UNKNOWN, 0);
        x.yard(0, 0, -1, 1);
        due(x, "no TEXT after a FAULT", x.yard(0, 0, 0, 1), -100, 0);
        CHECK.due("no YARD came of it", x.many(0), 0);
    }

    private static void due(IceYard x, String call, long got, long want, int fault) {
        CHECK.due(call, got, want);
        CHECK.due(call + ": fault()", x.fault(), fault);
    }

    private static void allAnew() {
        IceYard x = Check.yardOf("i33;l..;...;..o");
        x.push(0, 1);
        x.keep(0);
        x.push(0, 2);
        x.tell(0);
        int trace = x.trace();
        CHECK.due("no TEXT", Check.lay(x, "i33;o..;...;..?"), -114);
        CHECK.due("what is no TEXT changes nothing", x.many(4), 2);
        CHECK.due("nor the BLOCKS", x.many(2), 2);
        CHECK.due("nor the IMAGES", x.back(0), 1);
        CHECK.due("back", x.ofBlock(0, 1), 2);
        x.push(0, 2);
        x.keep(1);
        x.keep(2);
        CHECK.due("a TEXT", Check.lay(x, "i43;..o;...;.c.;..."), 1);
        CHECK.due("no PUSHES", x.many(4), 0);
        CHECK.due("nothing to undo", x.undo(1), IceYard.OUTSIDE);
        for (int i = 0; i < 3; i++) {
            CHECK.due("no IMAGE " + i, x.back(i), IceYard.STATE);
        }
        CHECK.due("HIGH", x.many(0), 4);
        CHECK.due("TRACE stays", x.trace(), trace);
        CHECK.due("SHEETS stay", x.cell(3, 0, 2), 'i');
        CHECK.due("BLOCK 0", x.ofBlock(0, 1), 2);
        CHECK.due("BLOCK 1 is no more", x.ofBlock(1, 1), IceYard.UNKNOWN);
        CHECK.due("the walls of the new YARD", x.would(0, 2), 11);
        Check.lay(x, "i33;..o;...;..c");
        CHECK.due("a CRACK of the new YARD", x.would(0, 2), IceYard.GONE);
        Check.lay(x, "i33;..o;...;...");
        CHECK.due("none in the next one", x.would(0, 2), 8);
        CHECK.due("nor FILLED", x.push(0, 2), 8);
    }

    /** Nothing of the CELLS of one YARD is left in the next one. */
    private static void cellsAnew() {
        String[] all = {"i33;...;...;...", "i33;###;###;###", "i33;sss;sss;sss", "i33;cc.;.cc;...", "i33;aaa;aaa;aaa",
            "i33;bbb;bbb;bbb", "i33;...;...;..."};
        for (String first : all) {
            IceYard x = Check.yardOf(first);
            for (String then : all) {
                Check.lay(x, then);
                for (int c = 0; c < 9; c++) {
                    int want = ".#scab".indexOf(then.charAt(4 + c / 3 * 4 + c % 3));
                    CHECK.due(first + ", then " + then + " at " + c, x.at(c), want);
                }
                CHECK.due("CRACKS", x.many(3), then.contains("c") ? 4 : 0);
                CHECK.due("no BLOCKS", x.many(2), 0);
                Check.lay(x, first);
            }
            Check.lay(x, "i33;o..;...;...");
            CHECK.due(first + ", then ICE", x.push(0, 1), 2);
            CHECK.due("TRACKS on it", x.tracks(0, 2), Check.set(5, 8));
            Check.lay(x, "i33;.o.;.#.;...");
            CHECK.due(first + ", then a WALL", x.push(0, 2), IceYard.STATE);
        }
        // SAND is put on ICE alone, and what was ICE is a FILLED CRACK now.
        IceYard x = Check.yardOf("i45;.....;.....;.....;.....");
        Check.lay(x, "i45;o.c.o;.....;.....;##a##");
        x.push(1, 3);
        CHECK.due("FILLED", x.at(2), 0);
        CHECK.due("no SAND on it", x.sand(0, 0, 2, -1), IceYard.NONE);
    }

    /** Of a SHEET's row a part; a row that has none. */
    private static void rowsOfAText() {
        IceYard x = new IceYard();
        x.sheet(0, 1, 0);
        CHECK.due("none of a row that has none", x.yard(0, 1, 0, 0), -100);
        CHECK.due("one of a row that has none", x.yard(0, 1, 0, 1), -13);
        String text = "i33;o..;...;..l";
        x.sheet(0, 1, 60);
        for (int i = 0; i < 15; i++) {
            x.put(0, 45 + i, text.charAt(i));
        }
        CHECK.due("the last 15 of 60", x.yard(0, 1, 45, 15), 2);
        CHECK.due("one too far", x.yard(0, 1, 46, 15), -13);
        CHECK.due("one too many", x.yard(0, 1, 45, 16), -13);
        CHECK.due("one too few", x.yard(0, 1, 45, 14), -114);
        CHECK.due("one too early", x.yard(0, 1, 44, 15), -100);
        CHECK.due("one too early, one more", x.yard(0, 1, 44, 16), -100);
        CHECK.due("none behind the last", x.yard(0, 1, 60, 0), -100);
        CHECK.due("none farther on", x.yard(0, 1, 61, 0), -13);
        CHECK.due("the YARD is still that", x.many(2), 2);
    }

    /** A YARD is not its SHEET: what becomes of the SHEET then changes nothing in it. */
    private static void sheetsAfterwards() {
        IceYard x = Check.yardOf("i33;l.a;.#.;c.o");
        x.put(3, 4, '#');
        x.put(3, 1, '6');
        CHECK.due("a cell of the SHEET changed", x.at(0), 10);
        CHECK.due("HIGH", x.many(0), 3);
        x.sheet(3, 0, 60);
        CHECK.due("a new row", x.many(2), 2);
        CHECK.due("lose", x.lose(3), 1);
        CHECK.due("no FIRST FAULT, but NULL", x.yard(3, 2, 0, 15), -11);
        CHECK.due("the BLOCK lies still", x.at(8), 11);
        CHECK.due("HOME", x.push(0, 1), -20);
        CHECK.due("GONE", x.push(1, 3), IceYard.GONE);
        CHECK.due("tell", x.tell(1), 8);
        CHECK.due("undo", x.undo(2), 0);
        CHECK.due("undo brings no SHEET back: lose again", x.lose(3), 0);
    }

    private static void lanes() {
        for (int lane = 0; lane < 3; lane++) {
            IceYard x = new IceYard();
            x.sheet(lane, lane, 40);
            for (int i = 0; i < FULL_TEXT.length(); i++) {
                x.put(lane, 10 + i, FULL_TEXT.charAt(i));
            }
            CHECK.due("from 10 on, lane " + lane, x.yard(lane, lane, 10, FULL_TEXT.length()), 3);
            CHECK.due("at 14", x.at(14), 5);
            x.put(lane, 10, 'i' + 65536);
            int want = lane == 2 ? -100 : 3;
            CHECK.due("a cell is cut to lane " + lane, x.yard(lane, lane, 10, FULL_TEXT.length()), want);
        }
    }

    private static void at() {
        IceYard x = Check.yardOf(FULL_TEXT);
        int[] want = {10, 0, 11, 0, 4, 0, 1, 2, 1, 0, 12, 0, 0, 3, 5};
        for (int c = 0; c < want.length; c++) {
            CHECK.due("at(" + c + ")", x.at(c), want[c]);
        }
        CHECK.due("at(-1)", x.at(-1), IceYard.UNKNOWN);
        CHECK.due("at(15)", x.at(15), IceYard.UNKNOWN);
        CHECK.due("at(64)", x.at(64), IceYard.UNKNOWN);
        CHECK.due("at(least)", x.at(Integer.MIN_VALUE), IceYard.UNKNOWN);
        x.push(1, 2);
        CHECK.due("a BLOCK on SAND", x.at(7), 11);
        CHECK.due("where it was", x.at(2), 0);
        x.push(2, 1);
        CHECK.due("a FILLED CRACK", x.at(13), 0);
        IceYard other = Check.yardOf("i33;#o#;#c#;#o#");
        other.push(0, 2);
        other.push(1, 0);
        CHECK.due("it went over the FILLED CRACK", other.at(1), 11);
        other.push(1, 2);
        CHECK.due("and back", other.at(7), 11);
        other = Check.yardOf("i33;..#;oco;..#");
        other.push(0, 1);
        CHECK.due("it goes on over it", other.push(1, 3), 3);
        other.undo(2);
        other = Check.yardOf("i34;o.c#;..o.;....");
        other.push(1, 0);
        CHECK.due("FILLED", other.at(2), 0);
        other.push(0, 1);
        CHECK.due("a BLOCK on a FILLED CRACK", other.at(2), 10);
        CHECK.due("none of the CRACKS is open", other.many(3), 0);
        x.push(0, 1);
        CHECK.due("a GATE stays one", x.at(4), 4);
        x.undo(2);
        CHECK.due("a CRACK again", x.at(13), 3);
    }

    private static void ofBlock() {
        mostBlocks();
        IceYard x = Check.yardOf("i34;l..a;o..b;d..c");
        for (int k = 0; k < 3; k++) {
            CHECK.due("kind of " + k, x.ofBlock(k, 0), k == 0 ? 1 : k == 1 ? 0 : 2);
            CHECK.due("CELL of " + k, x.ofBlock(k, 1), 4 * k);
            CHECK.due("OUTSIDE -1", x.ofBlock(k, -1), IceYard.OUTSIDE);
            CHECK.due("OUTSIDE 2", x.ofBlock(k, 2), IceYard.OUTSIDE);
        }
        CHECK.due("UNKNOWN ahead of OUTSIDE", x.ofBlock(3, 2), IceYard.UNKNOWN);
        CHECK.due("UNKNOWN below 0", x.ofBlock(-1, 0), IceYard.UNKNOWN);
        CHECK.due("HOME by GATE 0", x.push(0, 1), -20);
        CHECK.due("HOME by GATE 1", x.push(1, 1), -21);
        CHECK.due("GONE", x.push(2, 1), IceYard.GONE);
        CHECK.due("ofBlock HOME 0", x.ofBlock(0, 1), -20);
        CHECK.due("ofBlock HOME 1", x.ofBlock(1, 1), -21);
        CHECK.due("ofBlock GONE", x.ofBlock(2, 1), IceYard.GONE);
        CHECK.due("kind of one that is GONE", x.ofBlock(2, 0), 2);
    }

    /** The most CELLS, BLOCKS and CRACKS. */
    private static void mostBlocks() {
        IceYard x = Check.yardOf("i66;c....c;......;..old.;......;...o..;cl...d");
        CHECK.due("BLOCKS", x.many(2), 6);
        CHECK.due("CRACKS", x.many(3), 3);
        CHECK.due("the last CELL", x.at(35), 15);
        CHECK.due("one beyond", x.at(36), IceYard.UNKNOWN);
        CHECK.due("the last BLOCK", x.ofBlock(5, 1), 35);
        CHECK.due("its kind", x.ofBlock(5, 0), 2);
        CHECK.due("one more", x.ofBlock(6, 1), IceYard.UNKNOWN);
        CHECK.due("one more: push", x.push(6, 0), IceYard.UNKNOWN);
        CHECK.due("one more: would", x.would(6, 0), IceYard.UNKNOWN);
        CHECK.due("one more: tracks", x.tracks(6, 0), IceYard.LOST);
        CHECK.due("one more: sand", x.sand(6, 0, 1, 0), IceYard.UNKNOWN);
        CHECK.due("one more: tell", x.tell(6), IceYard.UNKNOWN);
        CHECK.due("one more: kick", x.kick(6), IceYard.UNKNOWN);
        CHECK.due("one more: as", x.as(6, 0), IceYard.UNKNOWN);
        CHECK.due("the last CELL is lost", x.thaw(2), 1 << 4 | 1 << 5);
        CHECK.due("from the last CELL up, into the CRACK", x.tracks(5, 0), Check.set(29, 23, 17, 11, 5));
        CHECK.due("GONE", x.push(5, 0), IceYard.GONE);
        CHECK.due("the last CELL is ICE", x.at(35), 0);
        CHECK.due("to the last CELL", x.push(4, 1), 35);
        CHECK.due("back from it, into the CRACK", x.push(4, 3), IceYard.GONE);
        CHECK.due("CRACKS left", x.many(3), 1);
    }

    private static void many() {
        IceYard x = Check.yardOf("i46;o....c;......;l....c;d.....");
        due(x, 4, 6, 3, 2, 0);
        x.push(0, 1);
        due(x, 4, 6, 3, 1, 1);
        x.push(1, 1);
        due(x, 4, 6, 3, 0, 2);
        x.undo(1);
        due(x, 4, 6, 3, 1, 1);
        CHECK.due("many(-1)", x.many(-1), IceYard.OUTSIDE);
        CHECK.due("many(5)", x.many(5), IceYard.OUTSIDE);
    }

    private static void due(IceYard x, int... want) {
        for (int what = 0; what < want.length; what++) {
            CHECK.due("many(" + what + ")", x.many(what), want[what]);
        }
    }
}
