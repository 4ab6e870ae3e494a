final class Promise2LiteralTest {
    private static final Checks CHECKS = new Checks();

    public static void main(String[] args) {
        documentExamples();
        everyValueIsTakenByItsLowBits();
        flagBitsGoUpInOrder();
        edgesWithAFlagByteOpen();
        edgesWithNoFlagByteOpen();
        earlierGroupKeepsItsFlagByte();
        CHECKS.end();
    }

    private static void documentExamples() {
        LzssFlags x = new LzssFlags();
        CHECKS.due("literal(65)", x.literal(65), 2);
        CHECKS.state("after literal(65)", x, 0, 1, 65);

        LzssFlags y = new LzssFlags();
        for (int k = 1; k <= 8; k++) {
            CHECKS.due("literal " + k, y.literal(k), k + 1);
        }
        CHECKS.state("after eight", y, 0, 255, 1, 2, 3, 4, 5, 6, 7, 8);
        CHECKS.due("ninth literal", y.literal(9), 11);
        CHECKS.state("after nine", y, 9, 255, 1, 2, 3, 4, 5, 6, 7, 8, 1, 9);
    }

    private static void everyValueIsTakenByItsLowBits() {
        int[][] valueAndByte = {
            {0, 0}, {1, 1}, {127, 127}, {128, 128}, {255, 255}, {256, 0}, {257, 1}, {511, 255},
            {-1, 255}, {-2, 254}, {-128, 128}, {-129, 127}, {-256, 0}, {-257, 255},
            {0x12345678, 0x78}, {Integer.MAX_VALUE, 255}, {Integer.MIN_VALUE, 0}};
        for (int[] row : valueAndByte) {
            LzssFlags x = new LzssFlags();
            CHECKS.due("literal(" + row[0] + ")", x.literal(row[0]), 2);
            CHECKS.state("after literal(" + row[0] + ")", x, 0, 1, row[1]);
        }
    }

    private static void flagBitsGoUpInOrder() {
        for (int place = 0; place < 8; place++) {
            LzssFlags x = new LzssFlags();
            // Pairs around the literal leave its bit alone in the flag byte.
            int refused = 0;
            for (int k = 0; k < 8; k++) {
                if (k == place) {
                    x.literal(7);
                } else if (x.pair(0, 3) < 0) {
                    refused++;
                }
            }
            CHECKS.due("flag byte, literal at place " + place, x.out(0), 1 << place);
            CHECKS.due("pairs without room, literal at place " + place, refused, 0);
        }
    }

    private static void edgesWithAFlagByteOpen() {
        LzssFlags x = Checks.literals(12);
        CHECKS.due("n before", x.size(), 14);
        CHECKS.due("literal at 14", x.literal(-3), 15);
        CHECKS.due("literal at 15", x.literal(-4), 16);
        for (int again = 0; again < 3; again++) {
            CHECKS.due("literal at 16", x.literal(99), -1);
            CHECKS.state("full", x, 9, 255, 0, 1, 2, 3, 4, 5, 6, 7, 63, 8, 9, 10, 11, 253, 252);
        }
    }

    private static void edgesWithNoFlagByteOpen() {
        // Eight items of l literals and p pairs end the group at 1 + l + 2p.
        LzssFlags at14 = Checks.items("lllppppp");
        CHECKS.due("n", at14.size(), 14);
        CHECKS.due("new group at 14", at14.literal(77), 16);
        CHECKS.due("flagAt, new group at 14", at14.flagAt(), 14);
        CHECKS.due("new flag byte", at14.out(14), 1);
        CHECKS.due("item after it", at14.out(15), 77);
        CHECKS.due("old flag byte", at14.out(0), 7);
        CHECKS.due("full with the group open", at14.literal(77), -1);

        LzssFlags at15 = Checks.items("llpppppp");
        CHECKS.due("n", at15.size(), 15);
        for (int again = 0; again < 3; again++) {
            CHECKS.due("new group at 15", at15.literal(77), -1);
            CHECKS.due("flagAt, refused at 15", at15.flagAt(), 0);
            CHECKS.due("size, refused at 15", at15.size(), 15);
            CHECKS.due("flag byte, refused at 15", at15.out(0), 3);
            CHECKS.due("out(15), refused at 15", at15.out(15), -1);
        }

        LzssFlags at16 = Checks.items("lppppppp");
        CHECKS.due("n", at16.size(), 16);
        CHECKS.due("new group at 16", at16.literal(77), -1);
        CHECKS.due("flagAt, refused at 16", at16.flagAt(), 0);
        CHECKS.due("size, refused at 16", at16.size(), 16);
        CHECKS.due("flag byte, refused at 16", at16.out(0), 1);
    }

    private static void earlierGroupKeepsItsFlagByte() {
        LzssFlags x = new LzssFlags();
        x.pair(0, 3);
        for (int k = 0; k < 7; k++) {
            x.literal(0);
        }
        CHECKS.state("group done", x, 0, 254, 0, 0, 0, 0, 0, 0, 0, 0, 0);
        CHECKS.due("next group", x.literal(5), 12);
        CHECKS.due("and on", x.literal(6), 13);
        CHECKS.state("next group", x, 10, 254, 0, 0, 0, 0, 0, 0, 0, 0, 0, 3, 5, 6);
    }
}
