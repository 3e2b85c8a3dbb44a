import java.util.ArrayList;
import java.util.List;
import java.util.Random;

/** Random yards and runs of pushes, each answer held against PlainYard's (promises 3 to 16, 27). */
public final class ModelTest {
    private static final Check CHECK = new Check("ModelTest");

    public static void main(String[] args) {
        int yards = args.length > 0 ? Integer.parseInt(args[0]) : 1200;
        Random random = new Random(args.length > 1 ? Long.parseLong(args[1]) : 7);
        for (int i = 0; i < yards; i++) {
            run(random, i % 2 == 0 ? randomText(random) : narrowText(random));
        }
        CHECK.end();
    }

    private static String randomText(Random random) {
        int high = 3 + random.nextInt(4);
        int wide = 3 + random.nextInt(4);
        int cracks = 0;
        int blocks = 0;
        int most = 1 + random.nextInt(6);
        int dense = random.nextInt(4);
        StringBuilder text = new StringBuilder("i").append(high).append(wide);
        for (int y = 0; y < high; y++) {
            text.append(';');
            for (int x = 0; x < wide; x++) {
                char sign = ".....#sscaboldold".charAt(random.nextInt(17));
                if (random.nextInt(4) < dense && "old".indexOf(sign) < 0) {
                    sign = '.';
                }
                if (sign == 'c' && ++cracks > 4 || "old".indexOf(sign) >= 0 && ++blocks > most) {
                    sign = '.';
                }
                text.append(sign);
            }
        }
        return text.toString();
    }

    /** Many walls: few pushes can be done, and games are won late or by having to push. */
    private static String narrowText(Random random) {
        int wide = 3 + random.nextInt(4);
        int cracks = 0;
        int blocks = 0;
        StringBuilder text = new StringBuilder("i3").append(wide);
        for (int c = 0; c < 3 * wide; c++) {
            if (c % wide == 0) {
                text.append(';');
            }
            char sign = "#####.sscaabold".charAt(random.nextInt(15));
            if (c / wide != 1 && random.nextBoolean()) {
                sign = '#';
            }
            if (sign == 'c' && ++cracks > 4 || "old".indexOf(sign) >= 0 && ++blocks > 3) {
                sign = '.';
            }
            text.append(sign);
        }
        return text.toString();
    }

    private static void run(Random random, String text) {
        IceYard x = new IceYard();
        PlainYard plain = new PlainYard(text);
        CHECK.due("yard " + text, Check.lay(x, text), plain.kinds.length);
        List<PlainYard> before = new ArrayList<>();
        PlainYard image = null;
        String told = text;
        int steps = random.nextInt(7);
        for (int step = 0; step < steps; step++) {
            int k = random.nextInt(plain.kinds.length + 1);
            int d = random.nextInt(4);
            told = told + " " + (10 * k + d);
            if (k == plain.kinds.length) {
                CHECK.due(told, x.push(k, d), IceYard.UNKNOWN);
            } else {
                PlainYard.Pushed p = plain.push(k, d);
                CHECK.due(told, x.push(k, d), p == null ? PlainYard.STATE : p.yard.where[k]);
                if (p != null) {
                    before.add(plain);
                    plain = p.yard;
                }
            }
            if (random.nextInt(5) == 0) {
                int back = random.nextInt(before.size() + 1);
                told = told + " undo " + back;
                CHECK.due(told, x.undo(back), before.size() - back);
                for (int b = 0; b < back; b++) {
                    plain = before.remove(before.size() - 1);
                }
            }
            if (random.nextInt(6) == 0) {
                told = told + " keep";
                CHECK.due(told, x.keep(2), 1);
                image = plain;
            }
            if (image != null && random.nextInt(4) == 0) {
                told = told + " back";
                CHECK.due(told, x.back(2), 1);
                plain = image;
                before.clear();
            }
            CHECK.due(told + " many(4)", x.many(4), before.size());
            comparePlaces(told, x, plain);
        }
        compare(told, x, plain, random);
    }

    private static void comparePlaces(String told, IceYard x, PlainYard plain) {
        for (int j = 0; j < plain.kinds.length; j++) {
            CHECK.due(told + " where " + j, x.ofBlock(j, 1), plain.where[j]);
        }
        CHECK.due(told + " cracks", x.many(3), plain.openCracks());
    }

    private static void compareState(String told, IceYard x, PlainYard plain) {
        for (int c = 0; c < plain.signs.length; c++) {
            CHECK.due(told + " at " + c, x.at(c), plain.at(c));
        }
        for (int k = 0; k < plain.kinds.length; k++) {
            CHECK.due(told + " kind " + k, x.ofBlock(k, 0), plain.kinds[k]);
            for (int d = 0; d < 4; d++) {
                PlainYard.Pushed p = plain.push(k, d);
                CHECK.due(told + " would " + k + d, x.would(k, d), p == null ? PlainYard.STATE : p.yard.where[k]);
                long tracks = p == null ? IceYard.LOST : PlainYard.bits(p.tracks);
                CHECK.due(told + " tracks " + k + d, x.tracks(k, d), tracks);
            }
        }
        comparePlaces(told, x, plain);
        for (int hour = 0; hour <= 20; hour++) {
            CHECK.due(told + " thaw " + hour, x.thaw(hour), plain.thaw(hour));
        }
    }

    private static void compare(String told, IceYard x, PlainYard plain, Random random) {
        compareState(told, x, plain);
        for (int gate = 0; gate < 2; gate++) {
            compareFewest(told + " fewest " + gate, x, plain, gate);
            CHECK.due(told + " won " + gate, x.won(gate), plain.won(gate));
            CHECK.due(told + " first " + gate, x.first(gate), plain.first(gate));
            if (plain.kinds.length > 0) {
                int k = random.nextInt(plain.kinds.length);
                compareSand(told + " sand " + k + " " + gate, x, plain, k, gate);
            }
        }
        compareRows(told + " rows", x, plain, random);
        comparePlaces(told + " after the questions", x, plain);
    }

    private static void compareFewest(String told, IceYard x, PlainYard plain, int gate) {
        int[] row = plain.fewest(gate);
        boolean found = row[0] >= 0;
        CHECK.due(told, x.fewest(gate, -1), found ? row.length : row[0]);
        for (int q = 0; q < row.length; q++) {
            CHECK.due(told + " q " + q, x.fewest(gate, q), row[q]);
        }
        CHECK.due(told + " beyond", x.fewest(gate, row.length), found ? PlainYard.NONE : row[0]);
    }

    private static void compareSand(String told, IceYard x, PlainYard plain, int k, int gate) {
        int n = plain.kinds.length > 3 && plain.signs.length > 16 ? 1 : 2;
        for (; n > 0; n--) {
            int[] row = plain.sand(k, gate, n);
            CHECK.due(told + " n " + n, x.sand(k, gate, n, -1), row == null ? PlainYard.NONE : row.length);
            for (int q = 0; q < 2; q++) {
                int due = row == null || q >= row.length ? PlainYard.NONE : row[q];
                CHECK.due(told + " n " + n + " q " + q, x.sand(k, gate, n, q), due);
            }
        }
    }

    private static void compareRows(String told, IceYard x, PlainYard plain, Random random) {
        for (int n = 1; n <= 3; n++) {
            List<long[]> all = new ArrayList<>();
            plain.rows(n, 0, new ArrayList<>(), all);
            for (int tried = 0; tried < 4; tried++) {
                long set = all.isEmpty() ? 1 : all.get(random.nextInt(all.size()))[0];
                if (tried == 3) {
                    set ^= 1L << random.nextInt(plain.signs.length);
                }
                long count = 0;
                long[] first = null;
                for (long[] line : all) {
                    if (line[0] == set) {
                        count++;
                        first = first == null ? line : first;
                    }
                }
                CHECK.due(told + " " + n + " of " + set, x.rows(n, set, -1), count);
                for (int q = 0; q < n; q++) {
                    long due = first == null ? PlainYard.NONE : first[q + 1];
                    CHECK.due(told + " " + n + " of " + set + " q " + q, x.rows(n, set, q), due);
                }
            }
        }
    }
}
