/** The edges that promise 1, the constructor and the start, names: a test for each sentence. */
final class EdgesPromise1Test {
    private static final Checks CHECKS = new Checks();

    public static void main(String[] args) {
        constructorNeverThrows();
        startOfTheState();
        answersAtTheStart();
        noFlagByteBeforeAnAcceptedItem();
        objectsAreApart();
        CHECKS.end();
    }

    private static void constructorNeverThrows() {
        CHECKS.sentence("LzssFlags() takes no arguments and never throws.");
        String thrown = "";
        try {
            for (int k = 0; k < 100_000; k++) {
                new LzssFlags();
            }
        } catch (RuntimeException | Error e) {
            thrown = e.toString();
        }
        CHECKS.holds("made without " + thrown, thrown.isEmpty());
    }

    private static void startOfTheState() {
        CHECKS.sentence("Afterwards n is 0, flagAt is -1 and mask is 0 (no flag byte is open).");
        CHECKS.state("fresh", new LzssFlags(), -1);
        LzssFlags literal = new LzssFlags();
        literal.literal(7);
        CHECKS.state("a literal opens a flag byte at 0", literal, 0, 1, 7);
        LzssFlags pair = new LzssFlags();
        pair.pair(7, 3);
        CHECKS.state("a pair opens a flag byte at 0", pair, 0, 0, 7, 0);
    }

    private static void answersAtTheStart() {
        CHECKS.sentence("So size() answers 0, flagAt() answers -1, and out(i) answers -1 for every "
            + "int i.");
        LzssFlags x = new LzssFlags();
        CHECKS.due("size()", x.size(), 0);
        CHECKS.due("flagAt()", x.flagAt(), -1);
        for (int i : Ints.SPREAD) {
            CHECKS.due("out(" + i + ")", x.out(i), -1);
        }
    }

    private static void noFlagByteBeforeAnAcceptedItem() {
        CHECKS.sentence("No flag byte is written until the first item is accepted.");
        LzssFlags x = new LzssFlags();
        int[][] refused = {{-1, 3}, {4096, 18}, {0, 2}, {4095, 19}, {-1, 2}};
        for (int[] call : refused) {
            x.pair(call[0], call[1]);
            CHECKS.state("after pair(" + call[0] + ", " + call[1] + ")", x, -1);
        }
        CHECKS.goesOn("after refused items", x, "");
    }

    private static void objectsAreApart() {
        CHECKS.sentence("Each object has its own state; calls on one object change nothing in "
            + "another.");
        String[] kept = {"", "l", "pl", "llllllll", "lllppppp", "lppppppp", "llllllllllllll"};
        for (String letters : kept) {
            LzssFlags x = Fillings.made(letters);
            LzssFlags other = new LzssFlags();
            for (int k = 0; k < 20; k++) {
                other.literal(k);
                other.pair(k, 3);
                other.pair(-k, 2);
                other.out(k);
                other.size();
                other.flagAt();
            }
            CHECKS.stayed("kept " + letters, x, letters);
        }
        takesTurns();
    }

    private static void takesTurns() {
        LzssFlags literals = new LzssFlags();
        LzssFlags pairs = new LzssFlags();
        for (int k = 0; k < 3; k++) {
            CHECKS.due("literal by turns " + k, literals.literal(k), 2 + k);
            CHECKS.due("pair by turns " + k, pairs.pair(k, 3 + k), 3 + 2 * k);
        }
        CHECKS.state("literals by turns", literals, 0, 7, 0, 1, 2);
        CHECKS.state("pairs by turns", pairs, 0, 0, 0, 0, 1, 1, 2, 2);
    }
}
