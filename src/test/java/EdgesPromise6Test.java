/** The edges that promise 6, flagAt, names: a test for each sentence. */
final class EdgesPromise6Test {
    private static final Checks CHECKS = new Checks();

    public static void main(String[] args) {
        answersTheLatestFlagByte();
        beforeTheFirstFlagByte();
        afterTheEightItemsAreComplete();
        refusedCallsLeaveIt();
        changesNothing();
        CHECKS.end();
    }

    private static void answersTheLatestFlagByte() {
        CHECKS.sentence("flagAt() answers flagAt, the index of the latest flag byte.");
        for (String letters : Fillings.ALL) {
            CHECKS.due("flagAt() after " + letters, Fillings.made(letters).flagAt(),
                Fillings.flagAt(letters));
        }
    }

    private static void beforeTheFirstFlagByte() {
        CHECKS.sentence("It is -1 until the first flag byte is opened.");
        LzssFlags x = new LzssFlags();
        CHECKS.due("fresh: flagAt()", x.flagAt(), -1);
        int[][] refused = {{-1, 3}, {4096, 3}, {0, 2}, {0, 19}};
        for (int[] call : refused) {
            x.pair(call[0], call[1]);
            CHECKS.due("flagAt() after pair(" + call[0] + ", " + call[1] + ")", x.flagAt(), -1);
        }
        x.out(0);
        x.size();
        CHECKS.due("flagAt() after reading", x.flagAt(), -1);
        x.pair(0, 3);
        CHECKS.due("flagAt() after the first item", x.flagAt(), 0);
    }

    private static void afterTheEightItemsAreComplete() {
        CHECKS.sentence("It goes on answering the latest flag byte's index after that byte's eight "
            + "items are complete, until another flag byte is opened.");
        for (String letters : Fillings.NOT_OPEN) {
            if (letters.isEmpty()) {
                continue;
            }
            LzssFlags x = Fillings.made(letters);
            CHECKS.due("eight items " + letters + ": flagAt()", x.flagAt(), 0);
            x.out(0);
            x.size();
            x.pair(-1, 3);
            CHECKS.due("eight items " + letters + " and no more: flagAt()", x.flagAt(), 0);
            x.literal(0);
            CHECKS.due("ninth item after " + letters + ": flagAt()", x.flagAt(),
                Fillings.literalFits(letters) ? Fillings.bytes(letters) : 0);
        }
    }

    private static void refusedCallsLeaveIt() {
        CHECKS.sentence("Refused calls leave it as it was.");
        for (String letters : Fillings.ALL) {
            int due = Fillings.flagAt(letters);
            LzssFlags x = Fillings.made(letters);
            x.pair(-1, 3);
            CHECKS.due("-2 after " + letters + ": flagAt()", x.flagAt(), due);
            x.pair(0, 19);
            CHECKS.due("-3 after " + letters + ": flagAt()", x.flagAt(), due);
            if (!Fillings.pairFits(letters)) {
                x.pair(0, 3);
                CHECKS.due("pair, -1 after " + letters + ": flagAt()", x.flagAt(), due);
            }
            if (!Fillings.literalFits(letters)) {
                x.literal(0);
                CHECKS.due("literal, -1 after " + letters + ": flagAt()", x.flagAt(), due);
            }
        }
    }

    private static void changesNothing() {
        CHECKS.sentence("flagAt: It changes nothing.");
        for (String letters : Fillings.ALL) {
            LzssFlags x = Fillings.made(letters);
            CHECKS.due("asked again after " + letters, x.flagAt(), x.flagAt());
            CHECKS.stands("asked after " + letters, x, letters);
            LzssFlags on = Fillings.made(letters);
            on.flagAt();
            CHECKS.goesOn("asked after " + letters, on, letters);
        }
    }
}
