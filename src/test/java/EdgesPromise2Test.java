/** The edges that promise 2, literal, names: a test for each sentence. */
final class EdgesPromise2Test {
    private static final Checks CHECKS = new Checks();

    public static void main(String[] args) {
        onlyTheLowBitsAreWritten();
        noValueIsRefusedForItself();
        refusedLiteralChangesNothing();
        otherBitsStay();
        byteIsWrittenAtTheEnd();
        takesUpOneBit();
        answerIsTheNewSize();
        roomWithAFlagByteOpen();
        roomWithNoFlagByteOpen();
        acceptedWithNoFlagByteOpen();
        acceptedWithAFlagByteOpen();
        flagAtAfterTheEighthItem();
        earlierBytesStay();
        earlierFlagBytesStay();
        example();
        CHECKS.end();
    }

    private static void onlyTheLowBitsAreWritten() {
        CHECKS.sentence("literal(int b) takes any int, negative ones included; only the low 8 bits "
            + "of b are written.");
        for (int b : Ints.SPREAD) {
            LzssFlags x = new LzssFlags();
            x.literal(b);
            x.literal(b);
            int low = Math.floorMod(b, 256);
            CHECKS.state("twice literal(" + b + ")", x, 0, 3, low, low);
        }
    }

    private static void noValueIsRefusedForItself() {
        CHECKS.sentence("No value of b is refused for itself.");
        for (int b : Ints.SPREAD) {
            CHECKS.due("fresh: literal(" + b + ")", new LzssFlags().literal(b), 2);
            CHECKS.due("last byte: literal(" + b + ")", Checks.literals(13).literal(b), 16);
            CHECKS.due("last two: literal(" + b + ")", Fillings.made("lllppppp").literal(b), 16);
        }
    }

    private static void refusedLiteralChangesNothing() {
        CHECKS.sentence("Opening with k = 1. It may refuse the call: the answer is then -1 and "
            + "nothing changes.");
        for (String letters : Fillings.ALL) {
            if (!Fillings.literalFits(letters)) {
                LzssFlags x = Fillings.made(letters);
                CHECKS.due("literal(-1) after " + letters, x.literal(-1), -1);
                CHECKS.due("again after " + letters, x.literal(0), -1);
                CHECKS.stayed("refused after " + letters, x, letters);
            }
        }
    }

    private static void otherBitsStay() {
        CHECKS.sentence("The flag byte at flagAt gets the bit mask set; its other bits stay as "
            + "they are.");
        for (String letters : Fillings.OPEN) {
            if (Fillings.literalFits(letters)) {
                int flagAt = Fillings.flagAt(letters);
                LzssFlags x = Fillings.made(letters);
                int before = x.out(flagAt);
                x.literal(0);
                CHECKS.due("flag byte, literal after " + letters, x.out(flagAt),
                    before | 1 << letters.length() % 8);
            }
        }
    }

    private static void byteIsWrittenAtTheEnd() {
        CHECKS.sentence("The low 8 bits of b are written at n, and n grows by one.");
        for (String letters : Fillings.ALL) {
            if (Fillings.literalFits(letters)) {
                LzssFlags x = Fillings.made(letters);
                x.literal(-86);
                int last = Fillings.bytes(letters + "l") - 1;
                CHECKS.due("the byte, literal after " + letters, x.out(last), 170);
                CHECKS.due("size(), literal after " + letters, x.size(), last + 1);
            }
        }
    }

    private static void takesUpOneBit() {
        CHECKS.sentence("Closing.");
        int[] due = {1, 3, 7, 15, 31, 63, 127, 255};
        LzssFlags x = new LzssFlags();
        for (int k = 0; k < 8; k++) {
            x.literal(0);
            CHECKS.due("flag byte after literal " + k, x.out(0), due[k]);
        }
        x.literal(0);
        CHECKS.due("first flag byte after literal 8", x.out(0), 255);
        CHECKS.due("second flag byte after literal 8", x.out(9), 1);
    }

    private static void answerIsTheNewSize() {
        CHECKS.sentence("The answer is the new n.");
        for (String letters : Fillings.ALL) {
            if (Fillings.literalFits(letters)) {
                LzssFlags x = Fillings.made(letters);
                int answer = x.literal(9);
                CHECKS.due("literal after " + letters, answer, Fillings.bytes(letters + "l"));
                CHECKS.due("size() after " + letters + " and a literal", x.size(), answer);
            }
        }
    }

    private static void roomWithAFlagByteOpen() {
        CHECKS.sentence("With a flag byte open (mask not 0), the call needs 1 byte: it is accepted "
            + "when n is at most 15 and refused when n is 16.");
        for (String letters : Fillings.OPEN) {
            int n = Fillings.bytes(letters);
            CHECKS.due("n = " + n + ", literal after " + letters, Fillings.made(letters).literal(0),
                n <= 15 ? n + 1 : -1);
        }
    }

    private static void roomWithNoFlagByteOpen() {
        CHECKS.sentence("With no flag byte open (mask 0), the call needs 2 bytes: it is accepted "
            + "when n is at most 14 and refused when n is 15 or 16.");
        for (String letters : Fillings.NOT_OPEN) {
            int n = Fillings.bytes(letters);
            CHECKS.due("n = " + n + ", literal after " + letters, Fillings.made(letters).literal(0),
                n <= 14 ? n + 2 : -1);
        }
    }

    private static void acceptedWithNoFlagByteOpen() {
        CHECKS.sentence("When accepted, n grows by two in all, flagAt becomes the old n, and the "
            + "new flag byte holds 1 after the call.");
        for (String letters : Fillings.NOT_OPEN) {
            if (Fillings.literalFits(letters)) {
                LzssFlags x = Fillings.made(letters);
                int n = x.size();
                x.literal(254);
                CHECKS.due("size(), literal after " + letters, x.size(), n + 2);
                CHECKS.due("flagAt(), literal after " + letters, x.flagAt(), n);
                CHECKS.due("flag byte, literal after " + letters, x.out(n), 1);
            }
        }
    }

    private static void acceptedWithAFlagByteOpen() {
        CHECKS.sentence("When a flag byte is already open, flagAt does not change and n grows by "
            + "exactly one.");
        for (String letters : Fillings.OPEN) {
            if (Fillings.literalFits(letters)) {
                LzssFlags x = Fillings.made(letters);
                x.literal(0);
                CHECKS.due("flagAt(), literal after " + letters, x.flagAt(),
                    Fillings.flagAt(letters));
                CHECKS.due("size(), literal after " + letters, x.size(),
                    Fillings.bytes(letters) + 1);
            }
        }
    }

    private static void flagAtAfterTheEighthItem() {
        CHECKS.sentence("After the eighth item of a group, flagAt keeps its value until a new flag "
            + "byte is opened.");
        LzssFlags x = Checks.literals(7);
        x.literal(7);
        CHECKS.due("flagAt() after the eighth", x.flagAt(), 0);
        x.pair(4096, 3);
        x.pair(0, 19);
        CHECKS.due("flagAt() after refused ones", x.flagAt(), 0);
        x.literal(8);
        CHECKS.due("flagAt() after the ninth", x.flagAt(), 9);

        // Here the ninth item never comes, since the store has no room for it.
        LzssFlags last = Fillings.made("llpppppp");
        CHECKS.due("literal with one byte left", last.literal(0), -1);
        CHECKS.due("flagAt() with one byte left", last.flagAt(), 0);
    }

    private static void earlierBytesStay() {
        CHECKS.sentence("An accepted call changes no byte written earlier other than the flag byte "
            + "at flagAt.");
        for (String letters : Fillings.ALL) {
            LzssFlags x = Fillings.made(letters);
            int[] before = Fillings.bytesOf(x);
            x.literal(-1);
            for (int i = 0; i < before.length; i++) {
                if (i != x.flagAt()) {
                    CHECKS.due("out(" + i + "), literal after " + letters, x.out(i), before[i]);
                }
            }
        }
    }

    private static void earlierFlagBytesStay() {
        CHECKS.sentence("Flag bytes of earlier groups keep their values.");
        for (String letters : Fillings.NOT_OPEN) {
            if (letters.isEmpty()) {
                continue;
            }
            LzssFlags x = Fillings.made(letters);
            for (int k = 1; k <= 8; k++) {
                x.literal(255);
                CHECKS.due("out(0), " + k + " literals after " + letters, x.out(0),
                    Fillings.flagByte(letters));
            }
        }
    }

    private static void example() {
        CHECKS.sentence("A ninth call answers 11, and then flagAt() is 9.");
        LzssFlags x = new LzssFlags();
        int[] due = {2, 3, 4, 5, 6, 7, 8, 9, 11, 12, 13, 14, 15, 16, -1, -1};
        for (int k = 0; k < due.length; k++) {
            CHECKS.due("literal " + k, x.literal(65), due[k]);
            CHECKS.due("flagAt() after literal " + k, x.flagAt(), k < 8 ? 0 : 9);
        }
    }
}
