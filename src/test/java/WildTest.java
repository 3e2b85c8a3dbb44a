import java.util.Random;

/**
 * Runs of 512 calls with any arguments in any state, each answer held against PlainIceYard's: none throws, and what
 * a call changed, or should not have, the later ones tell.
 */
public final class WildTest {
    private static final Check CHECK = new Check("WildTest");
    private static final int[] ODD = {Integer.MIN_VALUE, -65536, -36, -2, -1, 4, 5, 6, 7, 9, 14, 15, 20, 21, 36, 59, 60,
        61, 64, 65536, Integer.MAX_VALUE};
    private static final String[] TEXTS = {"i35;l.o.a;.#s#.;d..cb", "i33;old;...;.c.", "i43;o..;.c.;..c;ca.",
        "i36;...s.a;o.l..c;b.#.d.", "i33;###;###;###", "i33;..d;.a.;l..", "i33;o..;...;...?"};
    private static final String[] OFTEN = {"push", "push", "push", "push", "would", "tracks", "undo", "keep", "back", "at",
        "ofBlock", "many", "thaw", "sheet", "lose", "put", "put", "cell", "copy", "copy", "yard", "tell", "kick", "as",
        "trace", "fault", "fault"};
    private static final String[] SELDOM = {"fewest", "won", "first", "rows", "sand"};

    public static void main(String[] args) {
        int runs = args.length > 0 ? Integer.parseInt(args[0]) : 600;
        Random random = new Random(args.length > 1 ? Long.parseLong(args[1]) : 19);
        for (int run = 0; run < runs; run++) {
            Pair pair = new Pair(CHECK);
            while (pair.callsLeft() > 0) {
                if (random.nextInt(40) == 0 && pair.callsLeft() > 40) {
                    pair.lay(random.nextInt(4), random.nextInt(3), TEXTS[random.nextInt(TEXTS.length)]);
                }
                String[] names = random.nextInt(60) == 0 ? SELDOM : OFTEN;
                call(pair, names[random.nextInt(names.length)], random);
            }
        }
        CHECK.end();
    }

    private static int number(Random random) {
        return random.nextInt(10) == 0 ? ODD[random.nextInt(ODD.length)] : random.nextInt(4);
    }

    private static void call(Pair pair, String name, Random random) {
        long[] args = new long[5];
        for (int a = 0; a < args.length; a++) {
            args[a] = number(random);
        }
        if (name.equals("put")) {
            args[2] = random.nextBoolean() ? random.nextInt() : "i345;.#scabold".charAt(random.nextInt(14));
        } else if (name.equals("rows")) {
            args[1] = random.nextInt(9) == 0 ? random.nextLong() : random.nextInt(4096);
        } else if (name.equals("sheet")) {
            args[2] = random.nextInt(5) == 0 ? args[2] : random.nextInt(8);
        } else if (name.equals("undo")) {
            args[0] = random.nextInt(3) > 0 ? random.nextInt(2) : args[0];
        }
        if (name.equals("fewest") || name.equals("sand") || name.equals("rows")) {
            args[name.equals("fewest") ? 1 : name.equals("sand") ? 3 : 2]--;
        }
        pair.call(name, args);
    }
}
