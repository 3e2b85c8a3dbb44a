import java.util.Random;

/** Calls with any arguments in any state: none throws, and one that is refused changes nothing. */
public final class WildTest {
    private static final Check CHECK = new Check("WildTest");
    private static final int[] ODD = {Integer.MIN_VALUE, -65536, -36, -2, -1, 4, 5, 6, 7, 36, 59, 60, 61, 64, 65536,
        Integer.MAX_VALUE};
    private static final String[] TEXTS = {"i35;l.o.a;.#s#.;d..cb", "i33;old;old;...", "i63;o..;.c.;..c;cac;b..;..l",
        "i66;o....c;.l....;..d...;a..o..;....l.;b....d", "i33;###;###;###"};

    public static void main(String[] args) {
        Random random = new Random(19);
        for (int run = 0; run < 300; run++) {
            IceYard x = new IceYard();
            for (int call = 0; call < 500; call++) {
                if (random.nextInt(60) == 0) {
                    Check.lay(x, TEXTS[random.nextInt(TEXTS.length)]);
                    continue;
                }
                int name = random.nextInt(26);
                long before = picture(x);
                long got = call(x, name, random);
                boolean refused = got == IceYard.LOST || got < 0 && got > -20 && got != IceYard.GONE;
                boolean changes = name == 3 && got == IceYard.GONE;
                if (refused && !changes) {
                    CHECK.due("run " + run + " call " + call + " of " + name + " answered " + got, picture(x), before);
                }
            }
        }
        CHECK.end();
    }

    private static int number(Random random) {
        return random.nextInt(8) == 0 ? ODD[random.nextInt(ODD.length)] : random.nextInt(4);
    }

    private static long call(IceYard x, int name, Random random) {
        int a = number(random);
        int b = number(random);
        int c = number(random);
        int d = number(random);
        int e = number(random);
        switch (name) {
            case 0: return x.yard(a, b, c, d);
            case 1: return x.at(a);
            case 2: return x.ofBlock(a, b);
            case 3: return x.push(a, b);
            case 4: return x.would(a, b);
            case 5: return x.tracks(a, b);
            case 6: return x.undo(a);
            case 7: return x.keep(a);
            case 8: return x.back(a);
            case 9: return x.fewest(a, b - 1);
            case 10: return x.won(a);
            case 11: return x.first(a);
            case 12: return x.rows(a, random.nextInt(9) == 0 ? random.nextLong() : random.nextInt(4096), b - 1);
            case 13: return x.sand(a, b, c, d - 1);
            case 14: return x.thaw(a);
            case 15: return x.sheet(a, b, c);
            case 16: return x.lose(a);
            case 17: return x.put(a, b, random.nextInt());
            case 18: return x.cell(a, b, c);
            case 19: return x.copy(a, b, c, d, e);
            case 20: return x.tell(a);
            case 21: return x.kick(a);
            case 22: return x.as(a, b);
            case 23: return x.trace();
            case 24: return x.fault();
            default: return x.many(a);
        }
    }

    /** All that can be seen of the YARD, the PUSHES and TRACE without a call that names FAULTS. */
    private static long picture(IceYard x) {
        long picture = x.trace();
        for (int what = 0; what < 5; what++) {
            picture = 1000003 * picture + x.many(what);
        }
        for (int c = 0; c < 36; c++) {
            picture = 1000003 * picture + x.at(c);
        }
        for (int k = 0; k < 6; k++) {
            picture = 1000003 * picture + x.ofBlock(k, 1);
        }
        return picture;
    }
}
