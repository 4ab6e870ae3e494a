/** The edges that promise 5, size, names: a test for each part of its sentence. */
final class EdgesPromise5Test {
    private static final Checks CHECKS = new Checks();

    public static void main(String[] args) {
        flagBytesAreCounted();
        startsAtZero();
        neverMoreThanTheStore();
        neverSmallerThanBefore();
        changesNothing();
        CHECKS.end();
    }

    private static void flagBytesAreCounted() {
        CHECKS.sentence("size() answers n, the number of bytes written so far, flag bytes "
            + "included");
        for (String letters : Fillings.ALL) {
            LzssFlags x = Fillings.made(letters);
            int n = 0;
            while (n < 20 && x.out(n) >= 0) {
                n++;
            }
            CHECKS.due("size() after " + letters, x.size(), Fillings.bytes(letters));
            CHECKS.due("bytes to be read after " + letters, n, Fillings.bytes(letters));
        }
    }

    private static void startsAtZero() {
        CHECKS.sentence("0 at the start");
        LzssFlags x = new LzssFlags();
        CHECKS.due("fresh: size()", x.size(), 0);
        x.pair(-1, 3);
        x.pair(0, 2);
        CHECKS.due("only refused calls: size()", x.size(), 0);
    }

    private static void neverMoreThanTheStore() {
        CHECKS.sentence("never more than 16");
        for (String letters : Fillings.ALL) {
            LzssFlags x = Fillings.made(letters);
            for (int k = 0; k < 16; k++) {
                x.pair(k, 3);
                CHECKS.holds("pair " + k + " after " + letters + ": " + x.size() + " is 16 or less",
                    x.size() <= 16);
            }
            for (int k = 0; k < 16; k++) {
                x.literal(k);
                CHECKS.holds("literal " + k + " after " + letters + ": " + x.size()
                    + " is 16 or less", x.size() <= 16);
            }
        }
        LzssFlags full = Checks.literals(100);
        CHECKS.due("size() after a hundred literals", full.size(), 16);
    }

    private static void neverSmallerThanBefore() {
        CHECKS.sentence("never smaller than it was before");
        int[][] pairs = {{0, 3}, {4095, 18}, {-1, 3}, {4096, 3}, {0, 2}, {0, 19}};
        for (String letters : Fillings.ALL) {
            LzssFlags x = Fillings.made(letters);
            int before = Fillings.bytes(letters);
            for (int round = 0; round < 3; round++) {
                for (int[] call : pairs) {
                    x.pair(call[0], call[1]);
                    before = grown("pair(" + call[0] + ", " + call[1] + ")", letters, before, x);
                }
                x.literal(-1);
                before = grown("literal(-1)", letters, before, x);
                x.out(0);
                x.flagAt();
                before = grown("reading", letters, before, x);
            }
        }
    }

    private static int grown(String call, String letters, int before, LzssFlags x) {
        CHECKS.holds(call + " in a run after " + letters + ": size() from " + before + " to "
            + x.size(), x.size() >= before);
        return x.size();
    }

    private static void changesNothing() {
        CHECKS.sentence("size: It changes nothing.");
        for (String letters : Fillings.ALL) {
            LzssFlags x = Fillings.made(letters);
            CHECKS.due("asked again after " + letters, x.size(), x.size());
            CHECKS.stands("asked after " + letters, x, letters);
            LzssFlags on = Fillings.made(letters);
            on.size();
            CHECKS.goesOn("asked after " + letters, on, letters);
        }
    }
}
