final class Promise4OutTest {
    private static final Checks CHECKS = new Checks();

    public static void main(String[] args) {
        unfinishedFlagByteIsSeen();
        bytesAreNeverNegative();
        everyOtherIndexIsRefused();
        outChangesNothing();
        CHECKS.end();
    }

    private static void unfinishedFlagByteIsSeen() {
        LzssFlags x = new LzssFlags();
        int[] flagByte = {1, 3, 7, 15, 31, 63, 127, 255};
        for (int k = 0; k < 8; k++) {
            x.literal(0);
            CHECKS.due("flag byte after item " + (k + 1), x.out(0), flagByte[k]);
        }
    }

    private static void bytesAreNeverNegative() {
        for (int b = 0; b <= 255; b++) {
            LzssFlags x = new LzssFlags();
            x.literal(b);
            CHECKS.due("byte of literal(" + b + ")", x.out(1), b);
        }
    }

    private static void everyOtherIndexIsRefused() {
        for (int count = 0; count <= 14; count++) {
            LzssFlags x = Checks.literals(count);
            int n = x.size();
            for (int i : new int[] {Integer.MIN_VALUE, Integer.MIN_VALUE + 1, -256, -16, -1,
                n, n + 1, 16, 17, 256, Integer.MAX_VALUE - 1, Integer.MAX_VALUE}) {
                CHECKS.due(n + " bytes: out(" + i + ")", x.out(i), -1);
            }
            if (n > 0) {
                CHECKS.due(n + " bytes: the last one", x.out(n - 1), count - 1);
            }
        }
    }

    private static void outChangesNothing() {
        LzssFlags x = new LzssFlags();
        for (int k = 0; k < 9; k++) {
            x.literal(k);
            for (int i = -3; i < 20; i++) {
                x.out(i);
            }
        }
        CHECKS.state("read all along", x, 9, 255, 0, 1, 2, 3, 4, 5, 6, 7, 1, 8);
    }
}
