final class Promise6FlagAtTest {
    private static final Checks CHECKS = new Checks();

    public static void main(String[] args) {
        followsTheLatestFlagByte();
        followsAMixedGroup();
        refusedCallsLeaveIt();
        askingChangesNothing();
        CHECKS.end();
    }

    private static void followsTheLatestFlagByte() {
        int[] due = {-1, 0, 0, 0, 0, 0, 0, 0, 0, 9, 9, 9, 9, 9, 9, 9};
        LzssFlags x = new LzssFlags();
        for (int k = 0; k < due.length; k++) {
            CHECKS.due("flagAt after " + k + " literals", x.flagAt(), due[k]);
            x.literal(k);
        }
    }

    private static void followsAMixedGroup() {
        LzssFlags byLiteral = Checks.items("lplplpll");
        CHECKS.due("n", byLiteral.size(), 12);
        CHECKS.due("flagAt when the group is done", byLiteral.flagAt(), 0);
        byLiteral.literal(0);
        CHECKS.due("flagAt, group opened by a literal", byLiteral.flagAt(), 12);

        LzssFlags byPair = Checks.items("lplplpll");
        byPair.pair(0, 3);
        CHECKS.due("flagAt, group opened by a pair", byPair.flagAt(), 12);
    }

    private static void refusedCallsLeaveIt() {
        LzssFlags x = new LzssFlags();
        x.pair(-1, 3);
        x.pair(0, 0);
        CHECKS.due("flagAt, fresh and refused", x.flagAt(), -1);

        LzssFlags done = Checks.items("llpppppp");
        done.literal(0);
        done.pair(0, 3);
        done.pair(-1, 3);
        done.pair(0, 0);
        CHECKS.due("flagAt, no room for a new group", done.flagAt(), 0);

        LzssFlags full = Checks.literals(14);
        full.literal(0);
        full.pair(0, 3);
        CHECKS.due("flagAt, full", full.flagAt(), 9);
    }

    private static void askingChangesNothing() {
        LzssFlags x = new LzssFlags();
        for (int k = 0; k < 9; k++) {
            x.flagAt();
            x.literal(k);
            x.flagAt();
        }
        CHECKS.state("asked all along", x, 9, 255, 0, 1, 2, 3, 4, 5, 6, 7, 1, 8);
    }
}
