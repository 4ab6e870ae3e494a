/** The edges that the section "What it is" names, a test for each sentence. */
final class EdgesWhatItIsTest {
    private static final Checks CHECKS = new Checks();

    public static void main(String[] args) {
        oneFlagByteForEightItems();
        flagByteStartsAtZeroAndIsPatched();
        nothingThrowsAndEveryCallReturns();
        sizeStaysWithinTheStore();
        flagAtStartsBeforeTheStore();
        maskIsTheBitOfTheNextItem();
        maskStartsAtZero();
        needIsOneMoreWithNoFlagByteOpen();
        itemWithoutRoomChangesNothing();
        itemThatJustFitsIsTaken();
        openingWithNoFlagByteOpen();
        openingWithAFlagByteOpen();
        closingMovesTheMaskUp();
        ninthItemOpensANewFlagByte();
        CHECKS.end();
    }

    private static void oneFlagByteForEightItems() {
        CHECKS.sentence("one flag byte ahead of every eight items");
        int[] flagBytes = {0, 1, 1, 1, 1, 1, 1, 1, 1, 2, 2, 2, 2, 2, 2};
        for (int count = 0; count < flagBytes.length; count++) {
            LzssFlags x = Checks.literals(count);
            CHECKS.due("flag bytes of " + count + " items", x.size() - count, flagBytes[count]);
        }
        CHECKS.state("ten items", Checks.literals(10), 9,
            255, 0, 1, 2, 3, 4, 5, 6, 7, 3, 8, 9);
    }

    private static void flagByteStartsAtZeroAndIsPatched() {
        CHECKS.sentence("The flag byte is written as zero when its group is opened and is patched "
            + "as items arrive: a literal sets its bit, a pair leaves its bit clear.");
        LzssFlags x = new LzssFlags();
        int[] due = {0, 2, 2, 10, 26, 26, 90, 218};
        String letters = "plpllpll";
        for (int k = 0; k < 8; k++) {
            int answer = letters.charAt(k) == 'l' ? x.literal(0) : x.pair(0, 3);
            CHECKS.due("flag byte after item " + k + ", answered " + answer, x.out(0), due[k]);
        }
        LzssFlags second = Checks.literals(8);
        second.pair(4095, 18);
        CHECKS.due("flag byte of a group that a pair opens", second.out(9), 0);
        second.literal(255);
        CHECKS.due("the same with a literal more", second.out(9), 2);
    }

    private static final int[] ENDS = {Integer.MIN_VALUE, Integer.MIN_VALUE + 1, -4096, -1, 0, 2, 3,
        15, 16, 18, 19, 255, 256, 4095, 4096, Integer.MAX_VALUE - 1, Integer.MAX_VALUE};

    /** A call that does not return is ended, and counted as failed, by Guard. */
    private static void nothingThrowsAndEveryCallReturns() {
        CHECKS.sentence("Nothing here ever throws: the constructor and every public method answer "
            + "for any values of their arguments, and every call returns.");
        for (String letters : Fillings.ALL) {
            for (int a : ENDS) {
                answers("out(" + a + ") after " + letters, () -> Fillings.made(letters).out(a));
                answers("literal(" + a + ") after " + letters,
                    () -> Fillings.made(letters).literal(a));
                for (int b : ENDS) {
                    answers("pair(" + a + ", " + b + ") after " + letters,
                        () -> Fillings.made(letters).pair(a, b));
                }
            }
            answers("size() after " + letters, () -> Fillings.made(letters).size());
            answers("flagAt() after " + letters, () -> Fillings.made(letters).flagAt());
        }
    }

    private static void answers(String call, Runnable calls) {
        String thrown = "";
        try {
            calls.run();
        } catch (RuntimeException | Error e) {
            thrown = e.toString();
        }
        CHECKS.holds(call + " answers and does not throw " + thrown, thrown.isEmpty());
    }

    private static void sizeStaysWithinTheStore() {
        CHECKS.sentence("It starts at 0 and is never more than 16.");
        CHECKS.due("size() at the start", new LzssFlags().size(), 0);
        for (String letters : Fillings.ALL) {
            LzssFlags x = Fillings.made(letters);
            for (int k = 0; k < 20; k++) {
                int answer = k % 3 == 0 ? x.literal(k) : x.pair(k, 3);
                CHECKS.holds("16 or less after " + letters + " and " + k + " calls more: answer "
                    + answer + ", size() " + x.size(), answer <= 16 && x.size() <= 16);
            }
        }
    }

    private static void flagAtStartsBeforeTheStore() {
        CHECKS.sentence("the index of the latest flag byte. It starts at -1.");
        CHECKS.due("flagAt() at the start", new LzssFlags().flagAt(), -1);
    }

    private static void maskIsTheBitOfTheNextItem() {
        CHECKS.sentence("the bit of the next item in that flag byte (1, 2, 4, ..., 128), or 0 when "
            + "no flag byte is open.");
        int[] bits = {1, 2, 4, 8, 16, 32, 64, 128};
        for (int place = 0; place < 8; place++) {
            LzssFlags x = Fillings.made("p".repeat(place));
            x.literal(0);
            CHECKS.due("flag byte, literal after " + place + " pairs", x.out(0), bits[place]);
        }
        LzssFlags done = Checks.literals(8);
        CHECKS.due("no flag byte open after eight: a literal takes two bytes", done.literal(0), 11);
    }

    private static void maskStartsAtZero() {
        CHECKS.sentence("It starts at 0. It cannot be read from outside.");
        CHECKS.due("first item a literal: two bytes", new LzssFlags().literal(0), 2);
        CHECKS.due("first item a pair: three bytes", new LzssFlags().pair(0, 3), 3);
    }

    private static void needIsOneMoreWithNoFlagByteOpen() {
        CHECKS.sentence("need = k, plus 1 if mask is 0.");
        for (String letters : Fillings.ALL) {
            int flagByte = Fillings.open(letters) ? 0 : 1;
            int n = Fillings.bytes(letters);
            CHECKS.due("literal after " + letters, Fillings.made(letters).literal(1),
                n + 1 + flagByte <= 16 ? n + 1 + flagByte : -1);
            CHECKS.due("pair after " + letters, Fillings.made(letters).pair(1, 3),
                n + 2 + flagByte <= 16 ? n + 2 + flagByte : -1);
        }
    }

    private static void itemWithoutRoomChangesNothing() {
        CHECKS.sentence("If n + need > 16, the call is refused with -1 and NOTHING changes; "
            + "in particular no flag byte is opened.");
        for (String letters : Fillings.ALL) {
            LzssFlags x = Fillings.made(letters);
            if (!Fillings.literalFits(letters)) {
                CHECKS.due("literal after " + letters, x.literal(255), -1);
            }
            if (!Fillings.pairFits(letters)) {
                CHECKS.due("pair after " + letters, x.pair(4095, 18), -1);
                CHECKS.stayed("refused after " + letters, x, letters);
            }
        }
    }

    private static void itemThatJustFitsIsTaken() {
        CHECKS.sentence("If n + need > 16, the call is refused (and n + need = 16 is not)");
        for (String letters : Fillings.ALL) {
            if (Fillings.bytes(letters + "l") == 16) {
                CHECKS.due("literal after " + letters, Fillings.made(letters).literal(0), 16);
            }
            if (Fillings.bytes(letters + "p") == 16) {
                CHECKS.due("pair after " + letters, Fillings.made(letters).pair(0, 3), 16);
            }
        }
    }

    private static void openingWithNoFlagByteOpen() {
        CHECKS.sentence("Otherwise, if mask is 0: flagAt becomes n, a zero byte is written at n, "
            + "n grows by one, and mask becomes 1.");
        for (String letters : Fillings.NOT_OPEN) {
            int n = Fillings.bytes(letters);
            if (Fillings.pairFits(letters)) {
                LzssFlags x = Fillings.made(letters);
                x.pair(4095, 18);
                CHECKS.due("flagAt(), pair after " + letters, x.flagAt(), n);
                CHECKS.due("flag byte, pair after " + letters, x.out(n), 0);
                CHECKS.due("size(), pair after " + letters, x.size(), n + 1 + 2);
            }
            if (Fillings.literalFits(letters)) {
                LzssFlags x = Fillings.made(letters);
                x.literal(0);
                CHECKS.due("flagAt(), literal after " + letters, x.flagAt(), n);
                CHECKS.due("first bit, literal after " + letters, x.out(n), 1);
                CHECKS.due("size(), literal after " + letters, x.size(), n + 1 + 1);
            }
        }
    }

    private static void openingWithAFlagByteOpen() {
        CHECKS.sentence("If mask is not 0, opening changes nothing.");
        for (String letters : Fillings.OPEN) {
            if (Fillings.pairFits(letters)) {
                int n = Fillings.bytes(letters);
                int flagAt = Fillings.flagAt(letters);
                LzssFlags x = Fillings.made(letters);
                x.pair(0x123, 4);
                CHECKS.due("flagAt(), pair after " + letters, x.flagAt(), flagAt);
                CHECKS.due("flag byte, pair after " + letters, x.out(flagAt),
                    Fillings.flagByte(letters));
                CHECKS.due("the pair stands at n after " + letters, x.out(n), 0x23);
                CHECKS.due("size(), pair after " + letters, x.size(), n + 2);
            }
        }
    }

    private static void closingMovesTheMaskUp() {
        CHECKS.sentence("mask becomes (mask << 1) & 255.");
        for (String letters : Fillings.OPEN) {
            if (Fillings.literalFits(letters)) {
                LzssFlags x = Fillings.made(letters);
                x.literal(0);
                int bit = 1 << letters.length() % 8;
                CHECKS.due("flag byte, literal after " + letters, x.out(Fillings.flagAt(letters)),
                    Fillings.flagByte(letters) + bit);
            }
        }
    }

    private static void ninthItemOpensANewFlagByte() {
        CHECKS.sentence("So after the eighth item of a group mask is 0, and the next accepted item "
            + "opens a new flag byte.");
        for (String letters : Fillings.NOT_OPEN) {
            if (letters.isEmpty() || !Fillings.literalFits(letters)) {
                continue;
            }
            int n = Fillings.bytes(letters);
            LzssFlags x = Fillings.made(letters);
            CHECKS.due("flagAt() after " + letters, x.flagAt(), 0);
            x.pair(-1, 3);
            x.pair(0, 2);
            CHECKS.due("flagAt(), refused items after " + letters, x.flagAt(), 0);
            x.literal(0);
            CHECKS.due("flagAt(), accepted item after " + letters, x.flagAt(), n);
            CHECKS.due("the new flag byte after " + letters, x.out(n), 1);
        }
    }
}
