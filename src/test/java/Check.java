/** Counts answers that are due and those that are not; a test ends with exit code 1 if there was one of these. */
final class Check {
    private final String test;
    private int right;
    private int wrong;

    Check(String test) {
        this.test = test;
    }

    void due(String call, long got, long want) {
        if (got == want) {
            right++;
            return;
        }
        wrong++;
        if (wrong <= 40) {
            System.out.println(test + ": " + call + " answered " + got + ", due is " + want);
        }
    }

    void end() {
        System.out.println(test + ": " + right + " answers as due, " + wrong + " not");
        if (wrong != 0 || right == 0) {
            System.exit(1);
        }
    }

    /** What yard() answers for a text that is put into SHEET 3 as ints. */
    static int lay(IceYard x, String text) {
        x.sheet(3, 2, text.length());
        for (int i = 0; i < text.length(); i++) {
            x.put(3, i, text.charAt(i));
        }
        return x.yard(3, 2, 0, text.length());
    }

    static IceYard yardOf(String text) {
        IceYard x = new IceYard();
        if (lay(x, text) < 0) {
            throw new IllegalStateException("no TEXT: " + text);
        }
        return x;
    }

    static long set(int... cells) {
        long set = 0;
        for (int c : cells) {
            set |= 1L << c;
        }
        return set;
    }
}
