/** Promises 22 tell, 23 kick, 24 as, 25 trace. */
public final class PartsTest {
    private static final Check CHECK = new Check("PartsTest");
    private static int trace;

    public static void main(String[] args) {
        tellAndKick();
        whereItLayAtFirst();
        as();
        CHECK.end();
    }

    private static void due(IceYard x, String call, int got, int want, int... bodies) {
        for (int body : bodies) {
            trace = 31 * trace + body;
        }
        CHECK.due(call, got, want);
        CHECK.due(call + ": trace()", x.trace(), trace);
    }

    private static void tellAndKick() {
        IceYard x = Check.yardOf("i36;.....o;.....l;.....d");
        trace = 0;
        due(x, "none", 0, 0);
        due(x, "tell BLOCK", x.tell(0), 5, 1);
        due(x, "tell LOG", x.tell(1), 111, 2, 1);
        due(x, "tell SLEDGE", x.tell(2), 134, 3, 2, 1, 1);
        due(x, "kick BLOCK", x.kick(0), 0, 4);
        due(x, "kick LOG", x.kick(1), 1, 4);
        due(x, "kick SLEDGE", x.kick(2), 60, 5);
        due(x, "tell -1", x.tell(-1), IceYard.UNKNOWN);
        due(x, "tell 3", x.tell(3), IceYard.UNKNOWN);
        due(x, "kick -1", x.kick(-1), IceYard.UNKNOWN);
        due(x, "kick 3", x.kick(3), IceYard.UNKNOWN);
        for (int i = 0; i < 30; i++) {
            due(x, "it wraps", x.tell(2), 134, 3, 2, 1, 1);
        }
    }

    private static void whereItLayAtFirst() {
        IceYard x = Check.yardOf("i34;o..c;l...;...d");
        trace = 0;
        x.push(0, 1);
        x.push(1, 1);
        due(x, "GONE", x.tell(0), 0, 1);
        due(x, "moved", x.tell(1), 104, 2, 1);
        x.keep(0);
        x.back(0);
        due(x, "moved, as an IMAGE", x.tell(1), 104, 2, 1);
        due(x, "kick of one that is GONE", x.kick(0), 0, 4);
        Check.lay(x, "i34;.d..;....;....");
        due(x, "in another YARD", x.tell(0), 102, 3, 2, 1, 1);
    }

    private static void as() {
        IceYard x = Check.yardOf("i33;old;...;...");
        for (int k = 0; k < 3; k++) {
            for (int kind = 0; kind < 3; kind++) {
                CHECK.due(k + " as " + kind, x.as(k, kind), kind <= k ? 1 : -12);
                CHECK.due(k + " as " + kind + ": fault()", x.fault(), kind <= k ? 0 : 2);
            }
            CHECK.due("kind -1", x.as(k, -1), IceYard.OUTSIDE);
            CHECK.due("kind 3", x.as(k, 3), IceYard.OUTSIDE);
            CHECK.due("OUTSIDE: fault()", x.fault(), 0);
        }
        CHECK.due("UNKNOWN ahead of OUTSIDE", x.as(3, 3), IceYard.UNKNOWN);
        CHECK.due("UNKNOWN -1", x.as(-1, 0), IceYard.UNKNOWN);
        CHECK.due("as leaves no TRACE", x.trace(), 0);
    }
}
