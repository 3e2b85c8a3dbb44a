/** Promises 11 fewest, 12 won, 13 first. */
public final class SearchTest {
    private static final Check CHECK = new Check("SearchTest");

    public static void main(String[] args) {
        fewest();
        spent();
        yardsComeTo();
        severalGates();
        games();
        wonInThree();
        noneCanPush();
        again();
        firstByItself();
        CHECK.end();
    }

    private static void fewestOf(String text, int gate, int... row) {
        fewestOf(text, Check.yardOf(text), gate, row);
    }

    private static void fewestOf(String name, IceYard x, int gate, int... row) {
        CHECK.due(name + " fewest " + gate, x.fewest(gate, -1), row.length == 0 ? IceYard.NONE : row.length);
        for (int q = 0; q < row.length; q++) {
            CHECK.due(name + " fewest " + gate + " q " + q, x.fewest(gate, q), row[q]);
        }
        CHECK.due(name + " fewest " + gate + " beyond", x.fewest(gate, row.length), IceYard.NONE);
        CHECK.due(name + " fewest " + gate + " far", x.fewest(gate, Integer.MAX_VALUE), IceYard.NONE);
        CHECK.due(name + " no PUSH is done", x.many(4), 0);
    }

    private static void fewest() {
        fewestOf("i33;o.a;...;...", 0, 1);
        fewestOf("i33;o.a;...;...", 1);
        fewestOf("i33;o..;...;..b", 1, 1, 2);
        fewestOf("i33;...;...;...", 0);
        // Right then down, and down then right, are as short: right is the first.
        fewestOf("i33;o..;...;..a", 0, 1, 2);
        // BLOCK 1 alone is HOME in one.
        fewestOf("i34;o..#;....;l..b", 1, 11);
        // A strike brings it HOME.
        fewestOf("i34;l.ob;....;....", 1, 1);
        // SAND lets it stop ahead of the turn.
        fewestOf("i35;o.s..;.....;##a##", 0, 1, 2);
        // One that is HOME already is not one that comes HOME.
        IceYard x = Check.yardOf("i34;o..a;....;o...");
        x.push(0, 1);
        x.keep(0);
        x.back(0);
        fewestOf("one HOME already", x, 0, 10, 11);
        x.push(1, 0);
        x.push(1, 1);
        x.keep(0);
        x.back(0);
        fewestOf("all HOME", x, 0);
        x = Check.yardOf("i33;o.a;...;..b");
        CHECK.due("GATE -1", x.fewest(-1, -1), IceYard.UNKNOWN);
        CHECK.due("GATE 2", x.fewest(2, -1), IceYard.UNKNOWN);
        CHECK.due("q -2", x.fewest(0, -2), IceYard.UNKNOWN);
        CHECK.due("q least", x.fewest(0, Integer.MIN_VALUE), IceYard.UNKNOWN);
    }

    private static void spent() {
        // So many YARDS as are told can be come to, and no GATE: 1500 are not too many, 1501 are.
        fewestOf("i35;l...#;o..o#;.....", 0);
        fewestOf("i35;....l;.o...;.#.#o", 1);
        for (String text : new String[] {"i35;sdcld;.c...;.....", "i66;o.....;.o....;..o...;...o..;....o.;.....o"}) {
            IceYard x = Check.yardOf(text);
            CHECK.due(text + " SPENT", x.fewest(0, -1), IceYard.SPENT);
            CHECK.due(text + " SPENT, q 0", x.fewest(1, 0), IceYard.SPENT);
            CHECK.due(text + " UNKNOWN ahead of SPENT", x.fewest(2, 0), IceYard.UNKNOWN);
        }
        // 1499 come ahead of the first row.
        CHECK.due("late", Check.yardOf("i64;.s#b;llac;.o..;...s;....;...c").fewest(1, -1), 7);
    }

    /** As many YARDS as there may be, and one more: none ahead of which one comes HOME, and one. */
    private static void yardsComeTo() {
        yardsComeTo("i35;l...#;o..o#;.....", 0, 1500, IceYard.NONE);
        yardsComeTo("i35;....l;.o...;.#.#o", 1, 1500, IceYard.NONE);
        yardsComeTo("i35;sdcld;.c...;.....", 0, 1501, IceYard.SPENT);
        yardsComeTo("i35;sdcld;.c...;.....", 1, 1501, IceYard.SPENT);
        String last = "i46;...o..;....o.;#.#.do;b.##..";
        yardsComeTo(last, 1, 1500, 5);
        fewestOf(last, 1, 3, 2, 13, 12, 13);
        yardsComeTo("i46;...o..;....o.;#.#.do;b..#..", 1, 1501, IceYard.SPENT);
        // The one that is counts, also where it is the only one.
        yardsComeTo("i33;###;#o#;###", 0, 1, IceYard.NONE);
        yardsComeTo("i33;...;...;...", 0, 1, IceYard.NONE);
    }

    private static void yardsComeTo(String text, int gate, int yards, int want) {
        PlainYard plain = new PlainYard(text);
        plain.fewest(gate, 5000);
        CHECK.due(text + " YARDS come to for " + gate, plain.comeTo, yards);
        CHECK.due(text + " fewest " + gate, Check.yardOf(text).fewest(gate, -1), want);
    }

    /** CELLS of one GATE are one GATE, and those of the other one are not. */
    private static void severalGates() {
        fewestOf("i33;oaa;...;..b", 0, 1);
        fewestOf("i33;a.o;...;a.b", 0, 3);
        fewestOf("i33;a.o;...;b.a", 0, 2);
        fewestOf("i33;b.o;...;b.b", 0);
        fewestOf("i33;b.o;...;b.b", 1, 2);
        IceYard x = Check.yardOf("i34;ao.a;bo.b;a..b");
        CHECK.due("one GATE 0", x.push(0, 3), -20);
        CHECK.due("one GATE 1", x.push(1, 3), -21);
        x.undo(2);
        CHECK.due("the other GATE 0", x.push(0, 1), -20);
        CHECK.due("the other GATE 1", x.push(1, 1), -21);
        for (int c : new int[] {0, 3, 8}) {
            CHECK.due("GATE 0 at " + c, x.at(c), 4);
        }
        for (int c : new int[] {4, 7, 11}) {
            CHECK.due("GATE 1 at " + c, x.at(c), 5);
        }
    }

    private static void wonInThree() {
        // Up; the other one can only PUSH it down again, to the bottom; then left.
        game("i33;#.#;slb;a.#", 0, 3, 0);
        game("i33;#.#;slb;a.#", 1, 1, 1);
        // To the left; the other one can only PUSH it back to the right end; then up, by PUSH 0.
        game("i33;#sa;.l.;#b#", 0, 3, 3);
        // The CRACK is FILLED, and the other one can only PUSH the SLEDGE over it, HOME by the boy's GATE;
        // but not where a LOG can come HOME by his own ahead of that.
        game("i34;#b##;oc.a;#d#.", 1, 2, 1);
        game("i34;#b#l;oc.a;#d#.", 1, IceYard.NONE, IceYard.NONE);
        game("i33;aco;b.o;#l#", 0, IceYard.NONE, IceYard.NONE);
        game("i34;.##.;o..s;sbc#", 1, 3, 0);
        game("i33;###;dca;l##", 0, 3, 1);
        game("i34;#d##;aco.;###.", 0, 3, 2);
        game("i35;####.;b#.l.;###.a", 0, 3, 3);
        game("i35;d.##.;#b.c#;###o#", 1, 3, 10);
        game("i35;###.o;dc..#;#.#a#", 0, 3, 11);
        game("i35;##d#d;.#.ac;####.", 0, 3, 12);
        game("i34;###.;l.l.;###b", 1, 3, 13);
        // It would be won in three if the boy could pass: but he who can PUSH has to.
        game("i33;#b#;#sl;###", 1, IceYard.NONE, IceYard.NONE);
        game("i34;####;b..a;#d##", 1, IceYard.NONE, IceYard.NONE);
        // In one by PUSH 0.
        game("i33;a##;oca;#s#", 0, 1, 0);
        game("i34;####;#s.b;#b#l", 1, 1, 0);
        // In one by 11 and by 13: the least is told.
        game("i34;a...;.o..;aoa#", 0, 1, 11);
    }

    /** Who can't PUSH passes, and so does the other one: nothing is won by it. */
    private static void noneCanPush() {
        game("i33;###;oc#;###", 0, IceYard.NONE, IceYard.NONE);
        game("i33;###;oc#;###", 1, IceYard.NONE, IceYard.NONE);
        game("i33;###;oca;###", 0, IceYard.NONE, IceYard.NONE);
        game("i33;###;oa#;###", 1, IceYard.NONE, IceYard.NONE);
        IceYard x = Check.yardOf("i33;###;oca;###");
        x.push(0, 1);
        CHECK.due("GONE: won 0", x.won(0), IceYard.NONE);
        CHECK.due("GONE: first 0", x.first(0), IceYard.NONE);
        CHECK.due("GONE: fewest", x.fewest(0, -1), IceYard.NONE);
        x = Check.yardOf("i33;###;oa#;###");
        x.push(0, 1);
        CHECK.due("HOME ahead of the call: won 0", x.won(0), IceYard.NONE);
        CHECK.due("HOME ahead of the call: first 0", x.first(0), IceYard.NONE);
        CHECK.due("HOME ahead of the call: fewest", x.fewest(0, 0), IceYard.NONE);
    }

    private static void game(String text, int boy, int won, int first) {
        IceYard x = Check.yardOf(text);
        CHECK.due(text + " won " + boy, x.won(boy), won);
        CHECK.due(text + " first " + boy, x.first(boy), first);
        CHECK.due(text + " no PUSH is done", x.many(4), 0);
        CHECK.due(text + " first " + boy + " by itself", Check.yardOf(text).first(boy), first);
    }

    private static void games() {
        game("i33;o.a;...;..b", 0, 1, 1);
        game("i33;o.a;...;..b", 1, IceYard.NONE, IceYard.NONE);
        game("i33;...;...;...", 0, IceYard.NONE, IceYard.NONE);
        game("i33;###;#o#;###", 0, IceYard.NONE, IceYard.NONE);
        // The other one has to bring it HOME by the boy's GATE, for nothing else can be pushed.
        game("i35;##c##;asod#;#####", 0, 2, 0);
        game("i35;a####;bcdo#;#####", 1, 2, 3);
        game("i33;##a;slc;##l", 0, 2, 1);
        game("i36;#cs###;sdlsa#;###cc#", 0, 4, 3);
        game("i36;o##.ac;sldca#;#.##..", 0, 4, 13);
        game("i36;###c#o;bsld.#;##..#.", 1, 4, 11);
        // It would be won in 5.
        game("i34;b#d#;cssd;#.##", 1, IceYard.NONE, IceYard.NONE);
        game("i35;.####;#cdss;##d#a", 0, IceYard.NONE, IceYard.NONE);
        // Where the boy himself brings the other LOG HOME by the other boy's GATE, that one has won: no GAME goes on.
        game("i35;##l##;aasb#;#l###", 1, IceYard.NONE, IceYard.NONE);
        game("i35;d####;.#ssb;as#o#", 1, IceYard.NONE, IceYard.NONE);
        // By the other boy's GATE it is he who has won.
        game("i33;#b#;#o#;#a#", 0, 1, 2);
        game("i33;#b#;#o#;#a#", 1, 1, 0);
        game("i33;###;#o#;#a#", 1, IceYard.NONE, IceYard.NONE);
        IceYard x = Check.yardOf("i33;o.a;...;..b");
        CHECK.due("won -1", x.won(-1), IceYard.UNKNOWN);
        CHECK.due("won 2", x.won(2), IceYard.UNKNOWN);
        CHECK.due("first -1", x.first(-1), IceYard.UNKNOWN);
        CHECK.due("first 2", x.first(2), IceYard.UNKNOWN);
    }

    /** The same asked once more, of a YARD that has changed, and of another YARD. */
    private static void again() {
        IceYard x = Check.yardOf("i35;o...a;.....;....b");
        CHECK.due("GATE 0", x.fewest(0, -1), 1);
        CHECK.due("won 0", x.won(0), 1);
        x.push(0, 2);
        CHECK.due("GATE 0 from below", x.fewest(0, -1), 2);
        CHECK.due("GATE 1 from below", x.fewest(1, -1), 1);
        CHECK.due("won 0 from below", x.won(0), IceYard.NONE);
        x.undo(1);
        CHECK.due("GATE 0 once more", x.fewest(0, 0), 1);
        Check.lay(x, "i35;o.#.a;.....;.....");
        CHECK.due("behind a WALL", x.fewest(0, -1), 3);
        CHECK.due("behind a WALL, the first", x.fewest(0, 0), 2);
        CHECK.due("won 0 behind a WALL", x.won(0), IceYard.NONE);
    }

    /** FIRST is of the YARD as it is and of the boy that is told, whatever was asked ahead of it. */
    private static void firstByItself() {
        IceYard x = Check.yardOf("i35;o...a;.....;....b");
        CHECK.due("first 0", x.first(0), 1);
        CHECK.due("first 1, behind first 0", x.first(1), IceYard.NONE);
        CHECK.due("won 1", x.won(1), IceYard.NONE);
        CHECK.due("first 0, behind won 1", x.first(0), 1);
        CHECK.due("would", x.would(0, 2), 10);
        CHECK.due("first 0, behind would", x.first(0), 1);
        x.push(0, 2);
        CHECK.due("first 0 from below", x.first(0), IceYard.NONE);
        CHECK.due("first 1 from below", x.first(1), 1);
        CHECK.due("first 2 from below", x.first(2), IceYard.UNKNOWN);
        x.keep(0);
        x.undo(1);
        CHECK.due("first 1 from above", x.first(1), IceYard.NONE);
        x.back(0);
        CHECK.due("first 1 from below once more", x.first(1), 1);
        CHECK.due("rows ahead of it", x.rows(3, 1, -1), 0);
        CHECK.due("first 1, behind rows", x.first(1), 1);
        Check.lay(x, "i33;#sa;.l.;#b#");
        CHECK.due("first 0 of another YARD", x.first(0), 3);
        CHECK.due("won 0 behind first", x.won(0), 3);
        CHECK.due("first 1 of another YARD", x.first(1), 2);
        Check.lay(x, "i33;...;...;...");
        CHECK.due("first 0 where there is no BLOCK", x.first(0), IceYard.NONE);
        CHECK.due("first 1 where there is no BLOCK", x.first(1), IceYard.NONE);
    }
}
