/** The edges that promise 3, pair, names: a test for each sentence. */
final class EdgesPromise3Test {
    private static final Checks CHECKS = new Checks();

    private static final int[] RIGHT_OFFSETS = {0, 1, 255, 256, 4094, 4095};
    private static final int[] WRONG_OFFSETS =
        {Integer.MIN_VALUE, -4096, -2, -1, 4096, 4097, 8191, 65536, Integer.MAX_VALUE};
    private static final int[] RIGHT_LENGTHS = {3, 4, 17, 18};
    private static final int[] WRONG_LENGTHS =
        {Integer.MIN_VALUE, -3, -1, 0, 1, 2, 19, 20, 259, Integer.MAX_VALUE};

    public static void main(String[] args) {
        anyTwoIntsAreTaken();
        firstGroundDecides();
        offsetOutside();
        lengthOutside();
        noRoom();
        boundsAreAllowed();
        extremeValuesAreOutside();
        refusedPairChangesNothing();
        twoBytesAreWritten();
        sizeGrowsByTwo();
        flagByteIsNotAltered();
        takesUpOneBit();
        answerIsTheNewSize();
        roomWithAFlagByteOpen();
        flagAtWithAFlagByteOpen();
        roomWithNoFlagByteOpen();
        acceptedWithNoFlagByteOpen();
        literalAfterARefusedPair();
        earlierBytesStay();
        CHECKS.end();
    }

    private static void anyTwoIntsAreTaken() {
        CHECKS.sentence("pair(int off, int len) takes any two ints.");
        for (int off : Ints.SPREAD) {
            for (int len : Ints.SPREAD) {
                int due = off < 0 || off > 4095 ? -2 : len < 3 || len > 18 ? -3 : 3;
                CHECKS.due("fresh: pair(" + off + ", " + len + ")",
                    new LzssFlags().pair(off, len), due);
            }
        }
    }

    private static void firstGroundDecides() {
        CHECKS.sentence("The grounds for refusal are taken in this order, and the first that "
            + "applies decides the answer");
        String[] fillings = {"", "l", "llllllll", "lllppppp", "lppppppp", "llllllllllllll"};
        for (String letters : fillings) {
            LzssFlags x = Fillings.made(letters);
            CHECKS.due("both wrong after " + letters, x.pair(-1, 2), -2);
            CHECKS.due("both too large after " + letters, x.pair(4096, 19), -2);
            CHECKS.due("off wrong after " + letters, x.pair(4096, 3), -2);
            CHECKS.due("len wrong after " + letters, x.pair(4095, 19), -3);
            CHECKS.due("neither wrong after " + letters, x.pair(4095, 18),
                Fillings.pairFits(letters) ? Fillings.bytes(letters + "p") : -1);
        }
    }

    private static void offsetOutside() {
        CHECKS.sentence("off outside 0..4095 (less than 0 or greater than 4095): the answer is -2, "
            + "whatever len is and however full the store is.");
        for (String letters : Fillings.ALL) {
            LzssFlags x = Fillings.made(letters);
            for (int len : new int[] {Integer.MIN_VALUE, 2, 3, 18, 19, Integer.MAX_VALUE}) {
                CHECKS.due("pair(-1, " + len + ") after " + letters, x.pair(-1, len), -2);
                CHECKS.due("pair(4096, " + len + ") after " + letters, x.pair(4096, len), -2);
            }
        }
        LzssFlags x = new LzssFlags();
        for (int off : Ints.SPREAD) {
            if (off < 0 || off > 4095) {
                for (int len : Ints.SPREAD) {
                    CHECKS.due("pair(" + off + ", " + len + ")", x.pair(off, len), -2);
                }
            }
        }
    }

    private static void lengthOutside() {
        CHECKS.sentence("len outside 3..18 (less than 3 or greater than 18): the answer is -3, "
            + "however full the store is.");
        for (String letters : Fillings.ALL) {
            LzssFlags x = Fillings.made(letters);
            for (int off : new int[] {0, 4095}) {
                CHECKS.due("pair(" + off + ", 2) after " + letters, x.pair(off, 2), -3);
                CHECKS.due("pair(" + off + ", 19) after " + letters, x.pair(off, 19), -3);
            }
        }
        LzssFlags x = new LzssFlags();
        for (int off : RIGHT_OFFSETS) {
            for (int len : Ints.SPREAD) {
                if (len < 3 || len > 18) {
                    CHECKS.due("pair(" + off + ", " + len + ")", x.pair(off, len), -3);
                }
            }
        }
    }

    private static void noRoom() {
        CHECKS.sentence("Opening with k = 2, which may refuse the call: the answer is -1.");
        for (String letters : Fillings.ALL) {
            if (!Fillings.pairFits(letters)) {
                LzssFlags x = Fillings.made(letters);
                for (int off : RIGHT_OFFSETS) {
                    for (int len : RIGHT_LENGTHS) {
                        CHECKS.due("pair(" + off + ", " + len + ") after " + letters,
                            x.pair(off, len), -1);
                    }
                }
            }
        }
    }

    private static void boundsAreAllowed() {
        CHECKS.sentence("The bounds 0 and 4095 for off, and 3 and 18 for len, are themselves "
            + "allowed.");
        int[][] callAndBytes = {
            {0, 3, 0, 0}, {0, 18, 0, 15}, {4095, 3, 255, 240}, {4095, 18, 255, 255}};
        for (int[] row : callAndBytes) {
            LzssFlags x = new LzssFlags();
            String call = "pair(" + row[0] + ", " + row[1] + ")";
            CHECKS.due(call, x.pair(row[0], row[1]), 3);
            CHECKS.state("after " + call, x, 0, 0, row[2], row[3]);
            CHECKS.due(call + " as the last item",
                Fillings.made("llllpppp").pair(row[0], row[1]), 16);
        }
    }

    private static void extremeValuesAreOutside() {
        CHECKS.sentence("The extreme int values are simply outside the ranges.");
        int low = Integer.MIN_VALUE;
        int high = Integer.MAX_VALUE;
        LzssFlags x = Checks.literals(3);
        for (int len : new int[] {low, low + 1, 3, 18, high - 1, high}) {
            CHECKS.due("pair(least, " + len + ")", x.pair(low, len), -2);
            CHECKS.due("pair(greatest, " + len + ")", x.pair(high, len), -2);
        }
        for (int off : RIGHT_OFFSETS) {
            CHECKS.due("pair(" + off + ", least)", x.pair(off, low), -3);
            CHECKS.due("pair(" + off + ", greatest)", x.pair(off, high), -3);
        }
    }

    private static void refusedPairChangesNothing() {
        CHECKS.sentence("A refused call, for whichever ground, changes nothing: n, flagAt, mask "
            + "and every byte stay as they were, and no flag byte is opened.");
        for (String letters : Fillings.ALL) {
            LzssFlags wrongOffsets = Fillings.made(letters);
            for (int off : WRONG_OFFSETS) {
                wrongOffsets.pair(off, 18);
            }
            CHECKS.stayed("-2 after " + letters, wrongOffsets, letters);
            LzssFlags wrongLengths = Fillings.made(letters);
            for (int len : WRONG_LENGTHS) {
                wrongLengths.pair(4095, len);
            }
            CHECKS.stayed("-3 after " + letters, wrongLengths, letters);
            if (!Fillings.pairFits(letters)) {
                LzssFlags full = Fillings.made(letters);
                full.pair(4095, 18);
                full.pair(0, 3);
                CHECKS.stayed("-1 after " + letters, full, letters);
            }
        }
    }

    private static void twoBytesAreWritten() {
        CHECKS.sentence("Two bytes are written: first off & 255 at n, then "
            + "((off >> 4) & 240) | (len - 3) at the index after it.");
        for (String letters : Fillings.ALL) {
            if (Fillings.pairFits(letters)) {
                LzssFlags x = Fillings.made(letters);
                x.pair(0xABC, 3 + 0xD);
                int end = Fillings.bytes(letters + "p");
                CHECKS.due("first byte, pair after " + letters, x.out(end - 2), 0xBC);
                CHECKS.due("second byte, pair after " + letters, x.out(end - 1), 0xAD);
            }
        }
    }

    private static void sizeGrowsByTwo() {
        CHECKS.sentence("n grows by two for these two bytes.");
        LzssFlags x = new LzssFlags();
        x.literal(0);
        for (int k = 1; k <= 7; k++) {
            x.pair(k, 3);
            CHECKS.due("size() after a literal and " + k + " pairs", x.size(), 2 + 2 * k);
        }
    }

    private static void flagByteIsNotAltered() {
        CHECKS.sentence("The flag bit of this item stays clear; the flag byte at flagAt is not "
            + "altered by the item.");
        for (String letters : Fillings.OPEN) {
            int flagAt = Fillings.flagAt(letters);
            LzssFlags x = Fillings.made(letters);
            x.pair(4095, 18);
            CHECKS.due("flag byte, pair after " + letters, x.out(flagAt),
                Fillings.flagByte(letters));
        }
    }

    private static void takesUpOneBit() {
        CHECKS.sentence("The pair takes up one bit of the flag byte, just as a literal does.");
        for (int pairs = 0; pairs <= 6; pairs++) {
            LzssFlags x = Fillings.made("l" + "p".repeat(pairs));
            x.literal(0);
            CHECKS.due("flag byte, " + pairs + " pairs between two literals", x.out(0),
                1 + (2 << pairs));
        }
        LzssFlags eighth = Fillings.made("llllllp");
        eighth.pair(0, 3);
        CHECKS.due("two pairs end the group", eighth.literal(0), 13);
        CHECKS.due("and a new one is opened", eighth.flagAt(), 11);
    }

    private static void answerIsTheNewSize() {
        CHECKS.sentence("The answer is the new n.");
        for (String letters : Fillings.ALL) {
            if (Fillings.pairFits(letters)) {
                LzssFlags x = Fillings.made(letters);
                int answer = x.pair(291, 5);
                CHECKS.due("pair after " + letters, answer, Fillings.bytes(letters + "p"));
                CHECKS.due("size() after " + letters + " and a pair", x.size(), answer);
            }
        }
    }

    private static void roomWithAFlagByteOpen() {
        CHECKS.sentence("With a flag byte open (mask not 0), the call needs 2 bytes: it is "
            + "accepted when n is at most 14 and refused when n is 15 or 16.");
        for (String letters : Fillings.OPEN) {
            int n = Fillings.bytes(letters);
            CHECKS.due("n = " + n + ", pair after " + letters, Fillings.made(letters).pair(0, 3),
                n <= 14 ? n + 2 : -1);
        }
    }

    private static void flagAtWithAFlagByteOpen() {
        CHECKS.sentence("flagAt does not change.");
        for (String letters : Fillings.OPEN) {
            LzssFlags x = Fillings.made(letters);
            x.pair(0, 3);
            CHECKS.due("flagAt(), pair after " + letters, x.flagAt(), Fillings.flagAt(letters));
        }
    }

    private static void roomWithNoFlagByteOpen() {
        CHECKS.sentence("With no flag byte open (mask 0), the call needs 3 bytes: it is accepted "
            + "when n is at most 13 and refused when n is 14, 15 or 16.");
        for (String letters : Fillings.NOT_OPEN) {
            int n = Fillings.bytes(letters);
            CHECKS.due("n = " + n + ", pair after " + letters, Fillings.made(letters).pair(0, 3),
                n <= 13 ? n + 3 : -1);
        }
    }

    private static void acceptedWithNoFlagByteOpen() {
        CHECKS.sentence("When accepted, n grows by three in all, flagAt becomes the old n, and the "
            + "new flag byte holds 0 after the call.");
        for (String letters : Fillings.NOT_OPEN) {
            if (Fillings.pairFits(letters)) {
                LzssFlags x = Fillings.made(letters);
                int n = x.size();
                x.pair(4095, 18);
                CHECKS.due("size(), pair after " + letters, x.size(), n + 3);
                CHECKS.due("flagAt(), pair after " + letters, x.flagAt(), n);
                CHECKS.due("flag byte, pair after " + letters, x.out(n), 0);
            }
        }
    }

    private static void literalAfterARefusedPair() {
        CHECKS.sentence("A pair refused with -1 does not prevent a later literal from being "
            + "accepted, if the literal fits.");
        for (String letters : Fillings.ALL) {
            if (!Fillings.pairFits(letters) && Fillings.literalFits(letters)) {
                LzssFlags x = Fillings.made(letters);
                CHECKS.due("pair after " + letters, x.pair(0, 3), -1);
                CHECKS.due("literal after it", x.literal(99), 16);
                CHECKS.due("its byte", x.out(15), 99);
                CHECKS.due("its flag byte", x.out(x.flagAt()), Fillings.flagByte(letters + "l"));
            }
        }
    }

    private static void earlierBytesStay() {
        CHECKS.sentence("No byte written earlier is changed by any call of pair.");
        int[][] calls = {{4095, 18}, {0, 3}, {-1, 3}, {4096, 19}, {0, 2}, {4095, 19}};
        for (String letters : Fillings.ALL) {
            for (int[] call : calls) {
                LzssFlags x = Fillings.made(letters);
                int[] before = Fillings.bytesOf(x);
                x.pair(call[0], call[1]);
                for (int i = 0; i < before.length; i++) {
                    CHECKS.due("out(" + i + "), pair(" + call[0] + ", " + call[1] + ") after "
                        + letters, x.out(i), before[i]);
                }
            }
        }
    }
}
