/** Promises 22 tell, 23 kick, 24 as, 25 trace. */
public final class PartsTest {
    private static final Check CHECK = new Check("PartsTest");
    private static int trace;

    public static void main(String[] args) {
        tellAndKick();
        whereItLayAtFirst();
        traceAsTold();
        sixBlocks();
        as();
        CHECK.end();
    }

    private static void due(IceYard x, String call, int got, int want, int... bodies) {
        for (int body : bodies) {
            trace = 31 * trace + body;
        }
        CHECK.due(call, got, want);
        CHECK.due(call + ": trace()", x.trace(), trace);
    }

    private static void tellAndKick() {
        IceYard x = Check.yardOf("i36;.....o;.....l;.....d");
        trace = 0;
        due(x, "none", 0, 0);
        due(x, "tell BLOCK", x.tell(0), 5, 1);
        due(x, "tell LOG", x.tell(1), 111, 2, 1);
        due(x, "tell SLEDGE", x.tell(2), 134, 3, 2, 1, 1);
        due(x, "kick BLOCK", x.kick(0), 0, 4);
        due(x, "kick LOG", x.kick(1), 1, 4);
        due(x, "kick SLEDGE", x.kick(2), 60, 5);
        due(x, "tell -1", x.tell(-1), IceYard.UNKNOWN);
        due(x, "tell 3", x.tell(3), IceYard.UNKNOWN);
        due(x, "kick -1", x.kick(-1), IceYard.UNKNOWN);
        due(x, "kick 3", x.kick(3), IceYard.UNKNOWN);
        for (int i = 0; i < 30; i++) {
            due(x, "it wraps", x.tell(2), 134, 3, 2, 1, 1);
        }
    }

    private static void whereItLayAtFirst() {
        IceYard x = Check.yardOf("i34;o..c;l...;...d");
        trace = 0;
        x.push(0, 1);
        x.push(1, 1);
        due(x, "GONE", x.tell(0), 0, 1);
        due(x, "moved", x.tell(1), 104, 2, 1);
        x.keep(0);
        x.back(0);
        due(x, "moved, as an IMAGE", x.tell(1), 104, 2, 1);
        due(x, "kick of one that is GONE", x.kick(0), 0, 4);
        due(x, "one that is GONE as a BLOCK", x.as(0, 0), 1);
        due(x, "one that is GONE as a LOG", x.as(0, 1), -12);
        Check.lay(x, "i34;.d..;....;....");
        due(x, "in another YARD", x.tell(0), 102, 3, 2, 1, 1);
    }

    private static void as() {
        IceYard x = Check.yardOf("i33;old;...;...");
        for (int k = 0; k < 3; k++) {
            for (int kind = 0; kind < 3; kind++) {
                CHECK.due(k + " as " + kind, x.as(k, kind), kind <= k ? 1 : -12);
                CHECK.due(k + " as " + kind + ": fault()", x.fault(), kind <= k ? 0 : 2);
            }
            CHECK.due("kind -1", x.as(k, -1), IceYard.OUTSIDE);
            CHECK.due("kind 3", x.as(k, 3), IceYard.OUTSIDE);
            CHECK.due("OUTSIDE: fault()", x.fault(), 0);
        }
        CHECK.due("UNKNOWN ahead of OUTSIDE", x.as(3, 3), IceYard.UNKNOWN);
        CHECK.due("UNKNOWN -1", x.as(-1, 0), IceYard.UNKNOWN);
        CHECK.due("as leaves no TRACE", x.trace(), 0);
    }

    /** The numbers themselves, to where the int wraps, and beyond. */
    private static void traceAsTold() {
        IceYard x = Check.yardOf("i33;d..;...;..o");
        CHECK.due("0 at first", x.trace(), 0);
        x.tell(0);
        CHECK.due("3, 2, 1, 1", x.trace(), ((3 * 31 + 2) * 31 + 1) * 31 + 1);
        x.kick(1);
        CHECK.due("and 4", x.trace(), 91327 * 31 + 4);
        x.tell(1);
        CHECK.due("and 1", x.trace(), 87765372);
        x.kick(1);
        CHECK.due("and 4: it wraps", x.trace(), -1574240760);
        x.tell(2);
        x.kick(2);
        CHECK.due("refused: as it was", x.trace(), -1574240760);
        x.kick(0);
        CHECK.due("and 5: it wraps again", x.trace(), -1556823299);
    }

    private static void sixBlocks() {
        IceYard x = Check.yardOf("i66;o.....;......;..ld..;......;......;...old");
        int[] tells = {0, 114, 130, 33, 134, 170};
        int[] kicks = {0, 1, 60, 3, 4, 60};
        for (int k = 0; k < 6; k++) {
            CHECK.due("tell " + k, x.tell(k), tells[k]);
            CHECK.due("kick " + k, x.kick(k), kicks[k]);
        }
        int told = x.trace();
        for (int k : new int[] {Integer.MIN_VALUE, -1, 6, Integer.MAX_VALUE}) {
            CHECK.due("tell " + k, x.tell(k), IceYard.UNKNOWN);
            CHECK.due("kick " + k, x.kick(k), IceYard.UNKNOWN);
            CHECK.due("as " + k, x.as(k, 0), IceYard.UNKNOWN);
        }
        CHECK.due("no TRACE of them", x.trace(), told);
    }
}
