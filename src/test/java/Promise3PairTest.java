final class Promise3PairTest {
    private static final Checks CHECKS = new Checks();

    public static void main(String[] args) {
        documentExample();
        everyAllowedPairIsWrittenAsTold();
        groundsComeInOrder();
        groundsComeInOrderWhenFull();
        refusalsChangeNothing();
        edgesWithAFlagByteOpen();
        edgesWithNoFlagByteOpen();
        pairTakesOneFlagBit();
        CHECKS.end();
    }

    private static void documentExample() {
        LzssFlags x = new LzssFlags();
        x.literal(65);
        CHECKS.due("pair(291, 5)", x.pair(291, 5), 4);
        CHECKS.state("after pair(291, 5)", x, 0, 1, 65, 35, 18);
    }

    private static void everyAllowedPairIsWrittenAsTold() {
        for (int off = 0; off <= 4095; off++) {
            for (int len = 3; len <= 18; len++) {
                LzssFlags x = new LzssFlags();
                String call = "pair(" + off + ", " + len + ")";
                CHECKS.due(call, x.pair(off, len), 3);
                CHECKS.due(call + ": flag byte", x.out(0), 0);
                CHECKS.due(call + ": first byte", x.out(1), off % 256);
                CHECKS.due(call + ": second byte", x.out(2), off / 256 * 16 + len - 3);
            }
        }
    }

    private static final int[] WRONG_OFFSETS =
        {Integer.MIN_VALUE, -4096, -1, 4096, 4097, 65536, Integer.MAX_VALUE};
    private static final int[] WRONG_LENGTHS =
        {Integer.MIN_VALUE, -3, -1, 0, 1, 2, 19, 20, 256 + 3, Integer.MAX_VALUE};
    private static final int[] RIGHT_OFFSETS = {0, 1, 255, 256, 4094, 4095};
    private static final int[] RIGHT_LENGTHS = {3, 4, 17, 18};

    private static void askWrongPairs(String when, LzssFlags x) {
        for (int off : WRONG_OFFSETS) {
            for (int len : WRONG_LENGTHS) {
                CHECKS.due(when + ": pair(" + off + ", " + len + ")", x.pair(off, len), -2);
            }
            for (int len : RIGHT_LENGTHS) {
                CHECKS.due(when + ": pair(" + off + ", " + len + ")", x.pair(off, len), -2);
            }
        }
        for (int off : RIGHT_OFFSETS) {
            for (int len : WRONG_LENGTHS) {
                CHECKS.due(when + ": pair(" + off + ", " + len + ")", x.pair(off, len), -3);
            }
        }
    }

    private static void groundsComeInOrder() {
        LzssFlags x = new LzssFlags();
        askWrongPairs("fresh", x);
        CHECKS.state("fresh after wrong pairs", x, -1);
        x.literal(65);
        askWrongPairs("open", x);
        CHECKS.state("open after wrong pairs", x, 0, 1, 65);
        CHECKS.due("the next pair", x.pair(0, 3), 4);
        CHECKS.due("the next literal", x.literal(66), 5);
        CHECKS.state("bits go on in order", x, 0, 5, 65, 0, 0, 66);
    }

    private static void groundsComeInOrderWhenFull() {
        LzssFlags full = Checks.literals(14);
        CHECKS.due("n", full.size(), 16);
        askWrongPairs("full", full);
        for (int off : RIGHT_OFFSETS) {
            for (int len : RIGHT_LENGTHS) {
                CHECKS.due("full: pair(" + off + ", " + len + ")", full.pair(off, len), -1);
            }
        }
        CHECKS.state("full", full, 9, 255, 0, 1, 2, 3, 4, 5, 6, 7, 63, 8, 9, 10, 11, 12, 13);
    }

    private static void refusalsChangeNothing() {
        LzssFlags x = Checks.literals(8);
        x.pair(-1, 3);
        x.pair(4096, 3);
        x.pair(0, 2);
        x.pair(0, 19);
        CHECKS.state("between groups", x, 0, 255, 0, 1, 2, 3, 4, 5, 6, 7);
        CHECKS.due("the next pair", x.pair(4095, 18), 12);
        CHECKS.state("next group", x, 9, 255, 0, 1, 2, 3, 4, 5, 6, 7, 0, 255, 255);
    }

    private static void edgesWithAFlagByteOpen() {
        LzssFlags at14 = Checks.literals(12);
        CHECKS.due("n", at14.size(), 14);
        CHECKS.due("pair at 14", at14.pair(4095, 18), 16);
        CHECKS.state("full", at14, 9, 255, 0, 1, 2, 3, 4, 5, 6, 7, 15, 8, 9, 10, 11, 255, 255);

        LzssFlags at15 = Checks.literals(13);
        CHECKS.due("n", at15.size(), 15);
        CHECKS.due("pair at 15", at15.pair(0, 3), -1);
        CHECKS.state("refused at 15", at15, 9, 255, 0, 1, 2, 3, 4, 5, 6, 7, 31, 8, 9, 10, 11, 12);
        CHECKS.due("a literal still fits", at15.literal(13), 16);
        CHECKS.due("its bit is the next one", at15.out(9), 63);

        CHECKS.due("pair at 16", at15.pair(0, 3), -1);
        CHECKS.due("size after pair at 16", at15.size(), 16);
    }

    private static void edgesWithNoFlagByteOpen() {
        LzssFlags at13 = Checks.items("llllpppp");
        CHECKS.due("n", at13.size(), 13);
        CHECKS.due("new group at 13", at13.pair(4095, 18), 16);
        CHECKS.due("flagAt, new group at 13", at13.flagAt(), 13);
        CHECKS.due("new flag byte", at13.out(13), 0);
        CHECKS.due("first byte", at13.out(14), 255);
        CHECKS.due("second byte", at13.out(15), 255);
        CHECKS.due("old flag byte", at13.out(0), 15);

        LzssFlags at14 = Checks.items("lllppppp");
        CHECKS.due("n", at14.size(), 14);
        CHECKS.due("new group at 14", at14.pair(0, 3), -1);
        CHECKS.due("size, refused at 14", at14.size(), 14);
        CHECKS.due("flagAt, refused at 14", at14.flagAt(), 0);
        CHECKS.due("out(14), refused at 14", at14.out(14), -1);
        CHECKS.due("a literal still fits", at14.literal(9), 16);
        CHECKS.due("it opens the group", at14.flagAt(), 14);
        CHECKS.due("its flag byte", at14.out(14), 1);

        LzssFlags at15 = Checks.items("llpppppp");
        CHECKS.due("new group at 15", at15.pair(0, 3), -1);
        CHECKS.due("size, refused at 15", at15.size(), 15);
        CHECKS.due("flagAt, refused at 15", at15.flagAt(), 0);

        LzssFlags at16 = Checks.items("lppppppp");
        CHECKS.due("new group at 16", at16.pair(0, 3), -1);
        CHECKS.due("size, refused at 16", at16.size(), 16);
        CHECKS.due("flagAt, refused at 16", at16.flagAt(), 0);
    }

    private static void pairTakesOneFlagBit() {
        LzssFlags x = new LzssFlags();
        x.pair(0x123, 3);
        x.literal(1);
        x.pair(0x456, 4);
        x.literal(2);
        x.pair(0x789, 18);
        CHECKS.state("mixed", x, 0, 10, 0x23, 0x10, 1, 0x56, 0x41, 2, 0x89, 0x7F);
    }
}
