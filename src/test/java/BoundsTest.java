import java.util.ArrayList;
import java.util.Arrays;
import java.util.List;
import java.util.Set;
import java.util.function.Consumer;

/**
 * Each call in each state with all that its arguments can be near their bounds, together: the last number that is
 * taken and the first that is not, on both sides; of several REFUSALS and FAULTS the first in the line's order.
 * Each is made on an object of its own, and what can be seen of that object afterwards is held against PlainIceYard,
 * and, if the call was refused or only asks, against an object on which it was not made.
 */
public final class BoundsTest {
    private static final Check CHECK = new Check("BoundsTest");
    private static final long LEAST = Integer.MIN_VALUE, MOST = Integer.MAX_VALUE;
    private static final Set<String> NAME_FAULTS = Set.of("yard", "sheet", "put", "cell", "copy", "as");
    private static final Set<String> ASK = Set.of("at", "ofBlock", "would", "tracks", "fewest", "won", "first", "rows",
        "sand", "thaw", "cell", "as", "trace", "fault", "many");

    private static Consumer<Pair> state;
    private static List<Long> untouched;
    private static boolean sheetsSeen;

    public static void main(String[] args) {
        inState(BoundsTest::aNewObject);
        yards();
        sheets();
        inState(BoundsTest::someSheets);
        sheets();
        copies();
        inState(BoundsTest::someSheets);
        yards();
        inState(pair -> yard(pair, "i33;...;...;..."));
        yards();
        pushes();
        inState(BoundsTest::aYardInUse);
        yards();
        pushes();
        questions();
        inState(pair -> yard(pair, "i66;o....c;.l....;..d...;a..o..;....l.;b....d"));
        yards();
        pushes();
        inState(BoundsTest::allThePushes);
        pushes();
        inState(pair -> yard(pair, "i35;sdcld;.c...;....."));
        product("fewest", range(-1, 2), numbers(LEAST, -2, -1, 0, 1499, 1500, 1501, MOST));
        CHECK.end();
    }

    private static void aNewObject(Pair pair) {
        // Nothing is called.
    }

    private static void someSheets(Pair pair) {
        String text = "i33;...;...;...";
        pair.call("sheet", 0, 0, 5);
        pair.call("sheet", 1, 1, 0);
        pair.call("sheet", 2, 0, text.length() + 2);
        for (int i = 0; i < text.length(); i++) {
            pair.call("put", 2, i, text.charAt(i));
        }
        for (int i = 0; i < 5; i++) {
            pair.call("put", 0, i, 105 + i);
        }
        // A FAULT that shows whether the next call lets it stand.
        pair.call("put", 0, 5, 1);
    }

    private static void yard(Pair pair, String text) {
        pair.lay(text);
        pair.call("cell", 3, text.length(), 2);
    }

    private static void aYardInUse(Pair pair) {
        pair.lay("i35;l.o.a;.#s#.;d..cb");
        pair.call("keep", 0);
        pair.call("push", 1, 2);
        pair.call("push", 2, 1);
        pair.call("keep", 2);
        pair.call("push", 0, 1);
        pair.call("tell", 1);
        pair.call("cell", 3, 21, 2);
    }

    private static void allThePushes(Pair pair) {
        pair.lay("i33;o..;...;...");
        pair.call("keep", 1);
        for (int i = 0; i < 200; i++) {
            pair.call("push", 0, i % 2 == 0 ? 1 : 3);
        }
        pair.call("cell", 3, 15, 2);
    }

    private static void yards() {
        long[] blocks = numbers(LEAST, -1, 0, 1, 2, 3, 5, 6, 7, MOST);
        product("at", numbers(LEAST, -1, 0, 8, 9, 14, 15, 35, 36, 63, 64, MOST));
        product("ofBlock", blocks, numbers(LEAST, -1, 0, 1, 2, MOST));
        product("push", blocks, numbers(LEAST, -1, 0, 1, 2, 3, 4, MOST));
        product("would", blocks, numbers(LEAST, -1, 0, 1, 2, 3, 4, MOST));
        product("tracks", blocks, numbers(LEAST, -1, 0, 1, 2, 3, 4, MOST));
        product("keep", numbers(LEAST, -1, 0, 1, 2, 3, MOST));
        product("back", numbers(LEAST, -1, 0, 1, 2, 3, MOST));
        product("fewest", numbers(LEAST, -1, 0, 1, 2, MOST), numbers(LEAST, -2, -1, 0, 1, 2, 3, MOST));
        product("won", numbers(LEAST, -1, 0, 1, 2, MOST));
        product("first", numbers(LEAST, -1, 0, 1, 2, MOST));
        long[] sets = numbers(0, 1, 3, 56, 1 << 8, 1 << 9, 1 << 14, 1 << 15, 1L << 35, 1L << 36, (1L << 36) - 1,
            1L << 62, -1, Long.MAX_VALUE, Long.MIN_VALUE);
        product("rows", numbers(LEAST, -1, 0, 1, 2, 3, 4, MOST), sets, numbers(LEAST, -2, -1, 0, 1, 2, 3, 4, MOST));
        product("sand", numbers(-1, 0, 1, 2, 3, 6, MOST), numbers(LEAST, -1, 0, 1, 2, MOST),
            numbers(LEAST, 0, 1, 2, 3, MOST), numbers(LEAST, -2, -1, 0, 1, 2, MOST));
        product("thaw", numbers(LEAST, -1, 0, 1, 2, 3, 5, 6, 7, 11, 12, 13, 19, 20, 21, MOST));
        product("tell", blocks);
        product("kick", blocks);
        product("as", blocks, numbers(LEAST, -1, 0, 1, 2, 3, MOST));
        product("many", numbers(LEAST, -1, 0, 1, 2, 3, 4, 5, MOST));
        product("trace");
        product("fault");
    }

    private static void pushes() {
        product("push", range(-1, 3), range(-1, 4));
        product("would", range(-1, 3), range(-1, 4));
        product("undo", numbers(LEAST, -1, 0, 1, 2, 3, 4, 199, 200, 201, MOST));
        product("back", range(-1, 3));
        product("keep", range(-1, 3));
    }

    private static void questions() {
        product("rows", range(0, 4), numbers(0, 1 << 14, 1 << 15, -1, 1L << 63, 56, 58), range(-2, 4));
        product("thaw", range(-1, 21));
    }

    private static void sheets() {
        long[] all = numbers(LEAST, -1, 0, 1, 2, 3, 4, MOST);
        long[] lanes = numbers(LEAST, -1, 0, 1, 2, 3, MOST);
        sheetsSeen = true;
        product("sheet", all, lanes, numbers(LEAST, -1, 0, 1, 59, 60, 61, MOST));
        product("lose", all);
        product("put", all, numbers(LEAST, -1, 0, 4, 5, 16, 17, 60, MOST), numbers(0, 127, 128, -129, LEAST, MOST));
        product("cell", all, numbers(LEAST, -1, 0, 4, 5, 16, 17, 60, MOST), lanes);
        product("yard", all, lanes, numbers(LEAST, -1, 0, 1, 14, 15, 17, 18, MOST),
            numbers(LEAST, -1, 0, 1, 14, 15, 16, 17, 18, MOST));
        sheetsSeen = false;
    }

    private static void copies() {
        long[] cells = numbers(LEAST, -1, 0, 1, 5, 6, 17, 18, MOST);
        sheetsSeen = true;
        product("copy", range(-1, 4), cells, range(-1, 4), numbers(-1, 0, 5, 12, 17, 18, MOST), cells);
        sheetsSeen = false;
    }

    private static void inState(Consumer<Pair> made) {
        state = made;
        untouched = null;
    }

    private static void product(String name, long[]... choices) {
        long[] args = new long[choices.length];
        int count = 1;
        for (long[] choice : choices) {
            count *= choice.length;
        }
        for (int number = 0; number < count; number++) {
            int rest = number;
            for (int a = 0; a < args.length; a++) {
                args[a] = choices[a][rest % choices[a].length];
                rest /= choices[a].length;
            }
            once(name, args);
        }
    }

    private static void once(String name, long[] args) {
        Pair pair = new Pair(CHECK);
        state.accept(pair);
        long faultBefore = pair.call("fault");
        long answer = pair.call(name, args);
        long fault = pair.call("fault");
        String call = name + Arrays.toString(args) + " answered " + answer;
        boolean machine = answer <= -11 && answer >= -14 && NAME_FAULTS.contains(name);
        if (!NAME_FAULTS.contains(name)) {
            CHECK.due(call + ": fault() as it was", fault, faultBefore);
        } else if (answer != PlainIceYard.LOST) {
            CHECK.due(call + ": fault()", fault, machine ? -10 - answer : 0);
        }
        boolean gone = answer == IceYard.GONE && name.equals("push");
        boolean home = (answer == -20 || answer == -21) && name.equals("push");
        boolean refused = answer < 0 && !gone && !home;
        List<Long> seen = picture(pair);
        if (refused || ASK.contains(name)) {
            CHECK.due(call + ": it changed nothing", seen.equals(untouched()) ? 1 : 0, 1);
        }
    }

    private static List<Long> untouched() {
        if (untouched == null || untouched.get(0) != (sheetsSeen ? 1 : 0)) {
            Pair pair = new Pair(CHECK);
            state.accept(pair);
            untouched = picture(pair);
        }
        return untouched;
    }

    /** All that can be seen of an object but fault(); its PUSHES are taken back for it, and its IMAGES brought. */
    private static List<Long> picture(Pair pair) {
        List<Long> seen = new ArrayList<>();
        seen.add(sheetsSeen ? 1L : 0L);
        seen.add(pair.call("trace"));
        yardSeen(pair, seen);
        for (int k = 0; sheetsSeen && k < 4; k++) {
            sheetSeen(pair, k, seen);
        }
        for (int steps = 0; steps < 4; steps++) {
            seen.add(pair.call("undo", 1));
            placesSeen(pair, seen);
        }
        long pushes = pair.call("many", 4);
        seen.add(pushes);
        seen.add(pair.call("undo", pushes));
        placesSeen(pair, seen);
        for (int i = 0; i < 3; i++) {
            seen.add(pair.call("back", i));
            placesSeen(pair, seen);
        }
        return seen;
    }

    private static void yardSeen(Pair pair, List<Long> seen) {
        for (int what = 0; what < 5; what++) {
            seen.add(pair.call("many", what));
        }
        long cells = pair.call("many", 0) * pair.call("many", 1);
        for (int c = 0; c < cells; c++) {
            seen.add(pair.call("at", c));
        }
        for (int k = 0; k < pair.call("many", 2); k++) {
            seen.add(pair.call("ofBlock", k, 0));
        }
        placesSeen(pair, seen);
    }

    private static void placesSeen(Pair pair, List<Long> seen) {
        for (int k = 0; k < pair.call("many", 2); k++) {
            seen.add(pair.call("ofBlock", k, 1));
        }
        seen.add(pair.call("many", 3));
        seen.add(pair.call("many", 4));
    }

    private static void sheetSeen(Pair pair, int k, List<Long> seen) {
        for (int lane = 0; lane < 3; lane++) {
            long cell = 0;
            for (int i = 0; cell != PlainIceYard.LOST; i++) {
                cell = pair.call("cell", k, i, lane);
                seen.add(cell);
            }
            seen.add(pair.call("fault"));
        }
    }

    private static long[] numbers(long... numbers) {
        return numbers;
    }

    private static long[] range(int from, int to) {
        long[] numbers = new long[to - from + 1];
        for (int i = 0; i < numbers.length; i++) {
            numbers[i] = from + i;
        }
        return numbers;
    }
}
