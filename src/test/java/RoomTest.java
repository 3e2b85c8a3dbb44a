import java.lang.management.ManagementFactory;

/** All calls of one run live in one room: the dearest calls make next to nothing. */
public final class RoomTest {
    public static void main(String[] args) {
        Check check = new Check("RoomTest");
        com.sun.management.ThreadMXBean room =
            (com.sun.management.ThreadMXBean) ManagementFactory.getThreadMXBean();
        IceYard x = Check.yardOf("i66;o.....;.l....;..d...;...o..;....l.;a....d");
        calls(x);
        long before = room.getCurrentThreadAllocatedBytes();
        long sum = 0;
        for (int i = 0; i < 50; i++) {
            sum += calls(x);
        }
        long made = room.getCurrentThreadAllocatedBytes() - before;
        check.due("more than 64 KiB made by 500 calls (" + made + ", sum " + sum + ")", made > 65536 ? 1 : 0, 0);
        check.end();
    }

    private static long calls(IceYard x) {
        long sum = x.fewest(1, 0) + x.won(0) + x.first(1) + x.rows(3, (1L << 36) - 1, -1) + x.sand(0, 1, 2, 0);
        sum += x.sheet(0, 2, 60) + x.push(0, 1) + x.keep(0) + x.back(0) + Check.lay(x, "i33;o..;...;..a");
        Check.lay(x, "i66;o.....;.l....;..d...;...o..;....l.;a....d");
        return sum;
    }
}
