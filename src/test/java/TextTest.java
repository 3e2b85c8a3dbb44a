import java.util.Arrays;
import java.util.Random;

/**
 * Promise 2, what a TEXT is: for each HIGH and WIDE, at each place, each code that may stand there and each that
 * may not; TEXTS that end too soon or go on too long; too many CRACKS and BLOCKS, wherever they stand.
 */
public final class TextTest {
    private static final Check CHECK = new Check("TextTest");
    private static final int LOWEST_CODE = -2, HIGHEST_CODE = 130;
    private static final int[] FAR_CODES = {Integer.MIN_VALUE, -151, -128, 'i' - 256, '.' - 256, 255, 'i' + 256,
        ';' + 256, '3' + 256, '.' + 65536, 'o' + 65536, ';' - 65536, 'i' - 65536, '6' + 65536, Integer.MAX_VALUE};

    public static void main(String[] args) {
        Random random = new Random(11);
        for (int high = 3; high <= 6; high++) {
            for (int wide = 3; wide <= 6; wide++) {
                int[] text = someText(random, high, wide);
                eachCode(text);
                eachLength(text);
                limits(high, wide, "c", 4);
                limits(high, wide, "o", 6);
                limits(high, wide, "l", 6);
                limits(high, wide, "d", 6);
                limits(high, wide, "old", 6);
                noLimit(high, wide);
            }
        }
        sizes();
        CHECK.end();
    }

    private static int[] emptyText(int high, int wide) {
        int[] text = new int[3 + high * (wide + 1)];
        for (int p = 3; p < text.length; p++) {
            text[p] = (p - 3) % (wide + 1) == 0 ? ';' : '.';
        }
        text[0] = 'i';
        text[1] = '0' + high;
        text[2] = '0' + wide;
        return text;
    }

    /** With the most CRACKS and BLOCKS that there may be. */
    private static int[] someText(Random random, int high, int wide) {
        int[] text = emptyText(high, wide);
        String signs = "ccccoolldd";
        for (int s = 0; s < signs.length(); s++) {
            int p = random.nextInt(text.length);
            if (text[p] == '.') {
                text[p] = signs.charAt(s);
            }
        }
        return text;
    }

    private static void due(IceYard x, int[] codes, int from, int got) {
        int place = PlainIceYard.firstFault(codes);
        int blocks = 0;
        for (int code : codes) {
            blocks += code == 'o' || code == 'l' || code == 'd' ? 1 : 0;
        }
        String name = "codes from " + from + ": " + Arrays.toString(codes);
        CHECK.due(name, got, place < 0 ? blocks : -100 - place);
        CHECK.due(name + ": fault()", x.fault(), 0);
    }

    private static IceYard laid(int[] codes, int from, int after) {
        IceYard x = new IceYard();
        x.sheet(1, 2, from + codes.length + after);
        for (int p = 0; p < codes.length; p++) {
            x.put(1, from + p, codes[p]);
        }
        return x;
    }

    private static void eachCode(int[] text) {
        for (int p = 0; p < text.length; p++) {
            for (int first = LOWEST_CODE; first <= HIGHEST_CODE; first += 60) {
                int[] codes = new int[Math.min(60, HIGHEST_CODE + 1 - first)];
                for (int c = 0; c < codes.length; c++) {
                    codes[c] = first + c;
                }
                codesAt(text, p, p % 7, codes);
            }
            codesAt(text, p, 0, FAR_CODES);
        }
    }

    private static void codesAt(int[] text, int p, int from, int[] codes) {
        IceYard x = laid(text, from, 0);
        int[] changed = text.clone();
        for (int code : codes) {
            changed[p] = code;
            x.put(1, from + p, code);
            due(x, changed, from, x.yard(1, 2, from, changed.length));
        }
    }

    /** Of a row that goes on behind the text, too: the codes that are not taken do not count. */
    private static void eachLength(int[] text) {
        int[] longer = Arrays.copyOf(text, text.length + 3);
        for (int code : new int[] {0, ';', '.', 'c', 'o', '3'}) {
            Arrays.fill(longer, text.length, longer.length, code);
            IceYard x = laid(longer, 2, 0);
            for (int n = 0; n <= longer.length; n++) {
                due(x, Arrays.copyOf(longer, n), 2, x.yard(1, 2, 2, n));
            }
        }
    }

    /** So many signs from each CELL on, and one more: its place is told. */
    private static void limits(int high, int wide, String signs, int most) {
        int cells = high * wide;
        for (int from = 0; from + most < cells; from++) {
            int[] text = emptyText(high, wide);
            for (int s = 0; s < most; s++) {
                text[placeOf(from + s, wide)] = signs.charAt(s % signs.length());
            }
            IceYard x = laid(text, 0, 0);
            CHECK.due("the most there may be of " + signs, x.yard(1, 2, 0, text.length), most == 6 ? 6 : 0);
            CHECK.due("CRACKS", x.many(3), most == 4 ? 4 : 0);
            int place = placeOf(cells - 1, wide);
            x.put(1, place, signs.charAt(0));
            CHECK.due("one more of " + signs, x.yard(1, 2, 0, text.length), -100 - place);
            place = placeOf(from + most, wide);
            x.put(1, place, signs.charAt(most % signs.length()));
            CHECK.due("one more of " + signs + ", ahead of it", x.yard(1, 2, 0, text.length), -100 - place);
        }
    }

    private static int placeOf(int cell, int wide) {
        return 3 + cell / wide * (wide + 1) + 1 + cell % wide;
    }

    private static void noLimit(int high, int wide) {
        for (char sign : new char[] {'.', '#', 's', 'a', 'b'}) {
            int[] text = emptyText(high, wide);
            for (int cell = 0; cell < high * wide; cell++) {
                text[placeOf(cell, wide)] = sign;
            }
            IceYard x = laid(text, 0, 0);
            CHECK.due("all CELLS " + sign, x.yard(1, 2, 0, text.length), 0);
            for (int cell = 0; cell < high * wide; cell++) {
                CHECK.due("at " + cell + " of " + sign, x.at(cell), ".#s ab".indexOf(sign));
            }
            CHECK.due("at beyond", x.at(high * wide), IceYard.UNKNOWN);
        }
    }

    private static void sizes() {
        // The least TEXT has 15 codes, the longest 45.
        IceYard x = laid(emptyText(3, 3), 0, 0);
        CHECK.due("15 codes", x.yard(1, 2, 0, 15), 0);
        CHECK.due("HIGH", x.many(0), 3);
        CHECK.due("WIDE", x.many(1), 3);
        x = laid(emptyText(6, 6), 15, 0);
        CHECK.due("45 codes, the last of 60 cells", x.yard(1, 2, 15, 45), 0);
        CHECK.due("HIGH", x.many(0), 6);
        CHECK.due("WIDE", x.many(1), 6);
        CHECK.due("at 35", x.at(35), 0);
        CHECK.due("at 36", x.at(36), IceYard.UNKNOWN);
        CHECK.due("one more than there are", x.yard(1, 2, 15, 46), -13);
        CHECK.due("one further than there are", x.yard(1, 2, 16, 45), -13);
        CHECK.due("from the end on", x.yard(1, 2, 60, 0), -100);
        CHECK.due("from beyond on", x.yard(1, 2, 61, 0), -13);
    }
}
