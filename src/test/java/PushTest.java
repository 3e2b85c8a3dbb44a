/** Promises 5 push, 6 would, 7 tracks, 8 undo, 9 keep, 10 back. */
public final class PushTest {
    private static final Check CHECK = new Check("PushTest");

    public static void main(String[] args) {
        slides();
        strikes();
        chains();
        sandAndCracks();
        nextCell();
        onSand();
        struckOnItsWay();
        refusals();
        full();
        fullAndThen();
        undo();
        images();
        eachImage();
        CHECK.end();
    }

    /** would, tracks and push of one text. */
    private static IceYard pushed(String text, int k, int d, int want, int... tracks) {
        IceYard x = Check.yardOf(text);
        String call = text + " " + k + " to " + d;
        long set = tracks.length == 0 ? IceYard.LOST : Check.set(tracks);
        CHECK.due("would " + call, x.would(k, d), want);
        CHECK.due("tracks " + call, x.tracks(k, d), set);
        CHECK.due("it changes nothing " + call, x.many(4), 0);
        CHECK.due("push " + call, x.push(k, d), want);
        CHECK.due("PUSHES of " + call, x.many(4), want == IceYard.STATE ? 0 : 1);
        return x;
    }

    private static void slides() {
        String middle = "i33;...;.o.;...";
        pushed(middle, 0, 0, 1, 1);
        pushed(middle, 0, 1, 5, 5);
        pushed(middle, 0, 2, 7, 7);
        pushed(middle, 0, 3, 3, 3);
        pushed("i36;o....#;......;......", 0, 1, 4, 1, 2, 3, 4);
        pushed("i63;...;...;...;...;...;.o.", 0, 0, 1, 13, 10, 7, 4, 1);
        pushed("i33;#..;o..;#..", 0, 0, IceYard.STATE);
        pushed("i33;#..;o..;#..", 0, 2, IceYard.STATE);
        pushed("i33;#..;o..;#..", 0, 3, IceYard.STATE);
        pushed("i33;..o;...;...", 0, 1, IceYard.STATE);
        pushed("i33;..o;...;...", 0, 3, 0, 1, 0);
        pushed("i34;o.a.;....;....", 0, 1, -20, 1, 2);
        pushed("i34;o.b.;....;....", 0, 1, -21, 1, 2);
        pushed("i66;......;......;......;......;......;o....b", 0, 1, -21, 31, 32, 33, 34, 35);
    }

    private static void strikes() {
        IceYard x = pushed("i36;o.o...;......;......", 0, 1, 1, 1);
        CHECK.due("a BLOCK sends on nothing", x.ofBlock(1, 1), 2);
        pushed("i36;oo....;......;......", 0, 1, IceYard.STATE);
        x = pushed("i36;l.o...;......;......", 0, 1, 1, 1, 3, 4, 5);
        CHECK.due("a LOG sends on", x.ofBlock(1, 1), 5);
        x = pushed("i36;lo....;......;......", 0, 1, 0, 2, 3, 4, 5);
        CHECK.due("a LOG that stays sends on", x.ofBlock(1, 1), 5);
        x = pushed("i36;d.o...;......;......", 0, 1, 1, 1, 3, 4, 5);
        CHECK.due("a SLEDGE sends on", x.ofBlock(1, 1), 5);
        pushed("i33;.lo;...;...", 0, 1, IceYard.STATE);
        x = pushed("i34;l.ob;....;....", 0, 1, 1, 1, 3);
        CHECK.due("HOME by a strike", x.ofBlock(1, 1), -21);
        x = pushed("i34;...c;...o;...l", 1, 0, 11, 3);
        CHECK.due("GONE by a strike", x.ofBlock(0, 1), IceYard.GONE);
        CHECK.due("FILLED by a strike", x.many(3), 0);
        pushed("i34;l#o.;....;....", 0, 1, IceYard.STATE);
    }

    private static void chains() {
        IceYard x = pushed("i36;lldo..;......;......", 0, 1, 0, 4, 5);
        CHECK.due("1 stays", x.ofBlock(1, 1), 1);
        CHECK.due("3 goes", x.ofBlock(3, 1), 5);
        x = pushed("i36;l.o.o.;......;......", 0, 1, 1, 1, 3);
        CHECK.due("a BLOCK that was struck sends on nothing", x.ofBlock(2, 1), 4);
        CHECK.due("it goes as far as it can", x.ofBlock(1, 1), 3);
        x = pushed("i36;l.l.o.;......;......", 0, 1, 1, 1, 3, 5);
        CHECK.due("first strikes", x.ofBlock(1, 1), 3);
        CHECK.due("second goes", x.ofBlock(2, 1), 5);
        pushed("i36;lloldd;......;......", 0, 1, IceYard.STATE);
        x = pushed("i36;......;......;o.lld.", 3, 3, 16, 13);
        CHECK.due("the last of three goes", x.ofBlock(1, 1), 13);
        CHECK.due("what it reaches is no LOG's", x.ofBlock(0, 1), 12);
        x = pushed("i63;.l.;.d.;.l.;.d.;.o.;...", 0, 2, 1, 16);
        CHECK.due("the sixth row", x.ofBlock(4, 1), 16);
    }

    private static void sandAndCracks() {
        pushed("i35;o.s..;.....;.....", 0, 1, 2, 1, 2);
        pushed("i35;l.s..;.....;.....", 0, 1, 2, 1, 2);
        pushed("i35;d.s..;.....;.....", 0, 1, 4, 1, 2, 3, 4);
        IceYard x = pushed("i35;osss.;.....;.....", 0, 1, 1, 1);
        CHECK.due("from SAND to SAND", x.push(0, 1), 2);
        CHECK.due("TRACKS on SAND", x.tracks(0, 1), Check.set(3));
        x = pushed("i35;l.so.;.....;.....", 0, 1, 2, 1, 2);
        CHECK.due("it stopped ahead of the strike", x.ofBlock(1, 1), 3);
        CHECK.due("then it strikes", x.push(0, 1), 2);
        CHECK.due("and sends on", x.ofBlock(1, 1), 4);
        x = pushed("i35;o..c.;d..c.;l..c.", 1, 1, IceYard.GONE, 6, 7, 8);
        CHECK.due("one CRACK less", x.many(3), 2);
        CHECK.due("FILLED", x.at(8), 0);
        CHECK.due("the others stay", x.at(3), 3);
        CHECK.due("GONE lies nowhere", x.push(1, 1), IceYard.STATE);
        CHECK.due("would", x.would(1, 0), IceYard.STATE);
        CHECK.due("tracks", x.tracks(1, 0), IceYard.LOST);
        CHECK.due("over a FILLED CRACK", Check.yardOf("i36;o..c..;......;......").push(0, 1), IceYard.GONE);
        x = Check.yardOf("i36;o.oc..;......;......");
        x.push(1, 1);
        CHECK.due("a FILLED CRACK is ICE", x.push(0, 1), 5);
        CHECK.due("TRACKS back over it", x.tracks(0, 3), Check.set(4, 3, 2, 1, 0));
        x = Check.yardOf("i36;o.o.a.;......;......");
        x.push(1, 1);
        CHECK.due("HOME lies nowhere", x.push(1, 3), IceYard.STATE);
        CHECK.due("a GATE takes another one", x.push(0, 1), -20);
    }

    /** What lies just behind a BLOCK's CELL, on each side: one CELL is as many as it takes to be a PUSH. */
    private static void nextCell() {
        int[] next = {1, 5, 7, 3};
        for (int d = 0; d < 4; d++) {
            StringBuilder text = new StringBuilder("i33;###;#o#;###");
            int p = 4 + next[d] / 3 * 4 + next[d] % 3;
            int[] want = {next[d], IceYard.STATE, next[d], IceYard.GONE, -20, -21};
            for (int sign = 0; sign < want.length; sign++) {
                text.setCharAt(p, ".#scab".charAt(sign));
                for (int other = 0; other < 4; other++) {
                    if (other != d) {
                        pushed(text.toString(), 0, other, IceYard.STATE);
                    } else if (sign == 1) {
                        pushed(text.toString(), 0, d, IceYard.STATE);
                    } else {
                        pushed(text.toString(), 0, d, want[sign], next[d]);
                    }
                }
            }
        }
        // The YARD's end, on each side.
        for (String kind : new String[] {"o", "l", "d"}) {
            pushed("i33;" + kind + "#.;#..;...", 0, 0, IceYard.STATE);
            pushed("i33;" + kind + "#.;#..;...", 0, 3, IceYard.STATE);
            pushed("i33;...;..#;.#" + kind, 0, 1, IceYard.STATE);
            pushed("i33;...;..#;.#" + kind, 0, 2, IceYard.STATE);
        }
    }

    private static void onSand() {
        IceYard x = pushed("i34;dso.;....;....", 0, 1, 1, 1, 3);
        CHECK.due("a SLEDGE that stays on SAND has struck", x.ofBlock(1, 1), 3);
        CHECK.due("it lies on SAND", x.at(1), 10);
        CHECK.due("from it to the left", x.tracks(0, 3), Check.set(0));
        CHECK.due("a SLEDGE goes on from SAND", x.push(0, 1), 2);
        CHECK.due("SAND stays SAND", x.at(1), 2);
        x = pushed("i34;dss.;....;....", 0, 1, 3, 1, 2, 3);
        x = pushed("i34;ls..;....;....", 0, 1, 1, 1);
        CHECK.due("a LOG goes on from SAND by the next PUSH", x.push(0, 1), 3);
        CHECK.due("SAND stays SAND", x.at(1), 2);
        x = pushed("i34;osc.;....;....", 0, 1, 1, 1);
        CHECK.due("from SAND into the CRACK", x.push(0, 1), IceYard.GONE);
        x = pushed("i34;lsob;....;....", 0, 1, 1, 1);
        CHECK.due("it did not strike", x.ofBlock(1, 1), 2);
        CHECK.due("TRACKS are of the one that it strikes then", x.tracks(0, 1), Check.set(3));
        CHECK.due("it stays", x.push(0, 1), 1);
        CHECK.due("what it struck is HOME", x.ofBlock(1, 1), -21);
        // What is struck stops on SAND, too, and strikes nothing there.
        x = pushed("i35;llsl.;.....;.....", 0, 1, 0, 2);
        CHECK.due("struck, to the SAND", x.ofBlock(1, 1), 2);
        CHECK.due("ahead of the next", x.ofBlock(2, 1), 3);
    }

    /** What is struck SLIDES as it would by itself: from SAND, over SAND if it is a SLEDGE, over a FILLED CRACK. */
    private static void struckOnItsWay() {
        IceYard x = Check.yardOf("i36;los...;......;......");
        CHECK.due("to the SAND", x.push(1, 1), 2);
        CHECK.due("TRACKS of both", x.tracks(0, 1), Check.set(1, 3, 4, 5));
        CHECK.due("it strikes the BLOCK on SAND", x.push(0, 1), 1);
        CHECK.due("which slides on from there", x.ofBlock(1, 1), 5);
        x = pushed("i36;l.dss.;......;......", 0, 1, 1, 1, 3, 4, 5);
        CHECK.due("a SLEDGE that was struck goes over SAND", x.ofBlock(1, 1), 5);
        x = pushed("i36;d.lss.;......;......", 0, 1, 1, 1, 3);
        CHECK.due("a LOG that a SLEDGE struck stops on it", x.ofBlock(1, 1), 3);
        x = pushed("i36;o#....;l.dsol;......", 1, 1, 7, 7, 9);
        CHECK.due("a SLEDGE stays on SAND, where it strikes", x.ofBlock(2, 1), 9);
        CHECK.due("a BLOCK that stays sends on nothing", x.ofBlock(3, 1), 10);
        x = pushed("i36;d.dsl.;......;......", 0, 1, 1, 1, 3, 5);
        CHECK.due("second", x.ofBlock(1, 1), 3);
        CHECK.due("third", x.ofBlock(2, 1), 5);
        x = Check.yardOf("i36;#..o..;l..c.a;...o..");
        CHECK.due("into the CRACK", x.push(0, 2), IceYard.GONE);
        CHECK.due("the other one lies above the FILLED CRACK", x.push(2, 0), 3);
        x = Check.yardOf("i36;lo.co.;......;......");
        CHECK.due("into the CRACK from behind", x.push(2, 3), IceYard.GONE);
        CHECK.due("TRACKS over the FILLED CRACK", x.tracks(0, 1), Check.set(2, 3, 4, 5));
        CHECK.due("it sends on over it", x.push(0, 1), 0);
        CHECK.due("to the end", x.ofBlock(1, 1), 5);
        // Pushed where it stays, a LOG's PUSH is told by its own place, not by that of the one that it sends on.
        x = pushed("i34;lo.c;....;....", 0, 1, 0, 2, 3);
        CHECK.due("GONE", x.ofBlock(1, 1), IceYard.GONE);
        x = pushed("i34;dl.a;....;....", 0, 1, 0, 2, 3);
        CHECK.due("HOME", x.ofBlock(1, 1), -20);
    }

    private static void refusals() {
        IceYard x = Check.yardOf("i33;o..;...;..o");
        CHECK.due("push UNKNOWN ahead of OUTSIDE", x.push(2, 4), IceYard.UNKNOWN);
        CHECK.due("push -1", x.push(-1, 0), IceYard.UNKNOWN);
        CHECK.due("push OUTSIDE", x.push(0, 4), IceYard.OUTSIDE);
        CHECK.due("push OUTSIDE -1", x.push(0, -1), IceYard.OUTSIDE);
        CHECK.due("push STATE", x.push(0, 0), IceYard.STATE);
        CHECK.due("would UNKNOWN", x.would(2, 4), IceYard.UNKNOWN);
        CHECK.due("would OUTSIDE", x.would(1, 4), IceYard.OUTSIDE);
        CHECK.due("would OUTSIDE -1", x.would(1, -1), IceYard.OUTSIDE);
        CHECK.due("would STATE", x.would(1, 1), IceYard.STATE);
        CHECK.due("tracks UNKNOWN", x.tracks(2, 1), IceYard.LOST);
        CHECK.due("tracks OUTSIDE", x.tracks(0, 4), IceYard.LOST);
        CHECK.due("tracks STATE", x.tracks(0, 3), IceYard.LOST);
        CHECK.due("nothing came of it", x.many(4), 0);
        CHECK.due("0 lies as it lay", x.ofBlock(0, 1), 0);
        x.push(0, 1);
        x.push(0, 1);
        CHECK.due("OUTSIDE of one that is stuck", x.push(0, 9), IceYard.OUTSIDE);
    }

    private static void full() {
        IceYard x = Check.yardOf("i33;o..;...;...");
        for (int i = 0; i < 200; i++) {
            CHECK.due("push " + i, x.push(0, i % 2 == 0 ? 1 : 3), i % 2 == 0 ? 2 : 0);
        }
        CHECK.due("FULL", x.push(0, 1), IceYard.FULL);
        CHECK.due("STATE ahead of FULL", x.push(0, 3), IceYard.STATE);
        CHECK.due("OUTSIDE ahead of FULL", x.push(0, 4), IceYard.OUTSIDE);
        CHECK.due("PUSHES", x.many(4), 200);
        CHECK.due("it lies as it lay", x.ofBlock(0, 1), 0);
        CHECK.due("would is not FULL", x.would(0, 1), 2);
        CHECK.due("tracks is not FULL", x.tracks(0, 1), Check.set(1, 2));
        CHECK.due("undo one", x.undo(1), 199);
        CHECK.due("one more", x.push(0, 2), 8);
        CHECK.due("FULL again", x.push(0, 0), IceYard.FULL);
        CHECK.due("undo all", x.undo(200), 0);
        CHECK.due("as at first", x.ofBlock(0, 1), 0);
    }

    /** PUSHES are none by an IMAGE and by a new YARD: then there is room for 200 again. */
    private static void fullAndThen() {
        IceYard x = filled();
        CHECK.due("FULL", x.push(0, 1), IceYard.FULL);
        CHECK.due("undo 201", x.undo(201), IceYard.OUTSIDE);
        CHECK.due("keep is not FULL", x.keep(1), 1);
        CHECK.due("back", x.back(1), 1);
        CHECK.due("none", x.many(4), 0);
        for (int i = 0; i < 200; i++) {
            CHECK.due("push after back " + i, x.push(0, i % 2 == 0 ? 1 : 3), i % 2 == 0 ? 2 : 0);
        }
        CHECK.due("FULL again", x.push(0, 1), IceYard.FULL);
        CHECK.due("the IMAGE stays", x.back(1), 1);
        x = filled();
        Check.lay(x, "i33;o..;...;...");
        CHECK.due("none in the new YARD", x.many(4), 0);
        CHECK.due("a PUSH in it", x.push(0, 1), 2);
        x = filled();
        CHECK.due("undo 200", x.undo(200), 0);
        CHECK.due("undo 1 of none", x.undo(1), IceYard.OUTSIDE);
        CHECK.due("undo 0 of none", x.undo(0), 0);
        CHECK.due("a PUSH after all were taken back", x.push(0, 2), 6);
        CHECK.due("undo it", x.undo(1), 0);
        CHECK.due("as at first", x.ofBlock(0, 1), 0);
    }

    private static IceYard filled() {
        IceYard x = Check.yardOf("i33;o..;...;...");
        for (int i = 0; i < 200; i++) {
            x.push(0, i % 2 == 0 ? 1 : 3);
        }
        return x;
    }

    private static void undo() {
        IceYard x = Check.yardOf("i35;o..c.;l....;....a");
        CHECK.due("undo 0 of none", x.undo(0), 0);
        CHECK.due("undo 1 of none", x.undo(1), IceYard.OUTSIDE);
        CHECK.due("undo -1", x.undo(-1), IceYard.OUTSIDE);
        x.push(0, 1);
        x.push(1, 1);
        x.push(1, 2);
        CHECK.due("HOME", x.ofBlock(1, 1), -20);
        CHECK.due("undo 4 of 3", x.undo(4), IceYard.OUTSIDE);
        CHECK.due("undo -1 of 3", x.undo(-1), IceYard.OUTSIDE);
        CHECK.due("undo least", x.undo(Integer.MIN_VALUE), IceYard.OUTSIDE);
        CHECK.due("undo 0 of 3", x.undo(0), 3);
        CHECK.due("nothing is taken back", x.ofBlock(1, 1), -20);
        CHECK.due("undo 1", x.undo(1), 2);
        CHECK.due("it lies again", x.ofBlock(1, 1), 9);
        CHECK.due("the CRACK is still FILLED", x.at(3), 0);
        CHECK.due("undo 2", x.undo(2), 0);
        CHECK.due("0 lies again", x.at(0), 10);
        CHECK.due("1 lies again", x.at(5), 11);
        CHECK.due("the CRACK is open", x.at(3), 3);
    }

    private static void images() {
        IceYard x = Check.yardOf("i35;o..c.;l....;....a");
        CHECK.due("keep -1", x.keep(-1), IceYard.UNKNOWN);
        CHECK.due("keep 3", x.keep(3), IceYard.UNKNOWN);
        CHECK.due("back -1", x.back(-1), IceYard.UNKNOWN);
        CHECK.due("back 3", x.back(3), IceYard.UNKNOWN);
        CHECK.due("back to none", x.back(2), IceYard.STATE);
        CHECK.due("keep 0", x.keep(0), 1);
        x.push(0, 1);
        CHECK.due("keep 1", x.keep(1), 1);
        x.push(1, 1);
        CHECK.due("back 2 still none", x.back(2), IceYard.STATE);
        CHECK.due("PUSHES stay where it is refused", x.many(4), 2);
        CHECK.due("back 0", x.back(0), 1);
        CHECK.due("PUSHES are none", x.many(4), 0);
        CHECK.due("nothing to undo", x.undo(1), IceYard.OUTSIDE);
        CHECK.due("0 as it was", x.ofBlock(0, 1), 0);
        CHECK.due("1 as it was", x.ofBlock(1, 1), 5);
        CHECK.due("the CRACK as it was", x.at(3), 3);
        CHECK.due("back 1", x.back(1), 1);
        CHECK.due("0 GONE", x.ofBlock(0, 1), IceYard.GONE);
        CHECK.due("1 lies", x.ofBlock(1, 1), 5);
        CHECK.due("FILLED", x.many(3), 0);
        CHECK.due("push goes on", x.push(1, 1), 9);
        CHECK.due("keep 0 again", x.keep(0), 1);
        CHECK.due("keeping leaves the PUSHES", x.many(4), 1);
        CHECK.due("undo", x.undo(1), 0);
        CHECK.due("undo goes back to the IMAGE", x.ofBlock(1, 1), 5);
        CHECK.due("back 0", x.back(0), 1);
        CHECK.due("the later one", x.ofBlock(1, 1), 9);
    }

    /** Three IMAGES, each by itself, kept again, and brought more than once. */
    private static void eachImage() {
        IceYard x = Check.yardOf("i33;o..;...;...");
        for (int i = 0; i < 3; i++) {
            CHECK.due("none yet: back " + i, x.back(i), IceYard.STATE);
        }
        int[] cells = {0, 2, 8};
        for (int i = 0; i < 3; i++) {
            CHECK.due("keep " + i, x.keep(i), 1);
            x.push(0, 1 + i);
        }
        for (int turn = 0; turn < 2; turn++) {
            for (int i = 2; i >= 0; i--) {
                CHECK.due("back " + i, x.back(i), 1);
                CHECK.due("IMAGE " + i, x.ofBlock(0, 1), cells[i]);
                CHECK.due("at " + cells[i], x.at(cells[i]), 10);
                CHECK.due("PUSHES are none", x.many(4), 0);
                x.push(0, i == 2 ? 0 : 2);
            }
        }
        CHECK.due("keep 0 again", x.keep(0), 1);
        CHECK.due("back 1", x.back(1), 1);
        CHECK.due("IMAGE 1 as it was", x.ofBlock(0, 1), 2);
        CHECK.due("back 0", x.back(0), 1);
        CHECK.due("IMAGE 0 as it was kept last", x.ofBlock(0, 1), 6);
        for (int i : new int[] {Integer.MIN_VALUE, -1, 3, Integer.MAX_VALUE}) {
            CHECK.due("keep " + i, x.keep(i), IceYard.UNKNOWN);
            CHECK.due("back " + i, x.back(i), IceYard.UNKNOWN);
        }
        CHECK.due("they changed nothing", x.ofBlock(0, 1), 6);
    }
}
