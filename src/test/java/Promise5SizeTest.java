final class Promise5SizeTest {
    private static final Checks CHECKS = new Checks();

    public static void main(String[] args) {
        flagBytesCount();
        pairsCountTwo();
        refusedCallsLeaveIt();
        askingChangesNothing();
        CHECKS.end();
    }

    private static void flagBytesCount() {
        int[] sizes = {0, 2, 3, 4, 5, 6, 7, 8, 9, 11, 12, 13, 14, 15, 16, 16, 16};
        LzssFlags x = new LzssFlags();
        for (int k = 0; k < sizes.length; k++) {
            CHECKS.due("size after " + k + " literals", x.size(), sizes[k]);
            x.literal(k);
        }
    }

    private static void pairsCountTwo() {
        int[] sizes = {0, 3, 5, 7, 9, 11, 13, 15, 15, 15};
        LzssFlags x = new LzssFlags();
        for (int k = 0; k < sizes.length; k++) {
            CHECKS.due("size after " + k + " pairs", x.size(), sizes[k]);
            x.pair(k, 3);
        }
        CHECKS.due("a literal fills the store", x.literal(0), 16);
        CHECKS.due("size when full", x.size(), 16);
    }

    private static void refusedCallsLeaveIt() {
        LzssFlags x = Checks.literals(3);
        x.pair(-1, 3);
        CHECKS.due("size after a wrong offset", x.size(), 4);
        x.pair(0, 19);
        CHECKS.due("size after a wrong length", x.size(), 4);
        LzssFlags full = Checks.literals(14);
        full.literal(0);
        full.pair(0, 3);
        CHECKS.due("size when full", full.size(), 16);
    }

    private static void askingChangesNothing() {
        LzssFlags x = new LzssFlags();
        for (int k = 0; k < 9; k++) {
            x.size();
            x.literal(k);
            x.size();
        }
        CHECKS.state("asked all along", x, 9, 255, 0, 1, 2, 3, 4, 5, 6, 7, 1, 8);
    }
}
