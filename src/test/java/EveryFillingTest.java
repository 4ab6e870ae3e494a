/**
 * Goes through every order of accepted literals and pairs until the store is full.
 * At each stop all refusals are asked for, and the rest of the run tells whether
 * they left the hidden mask alone.
 */
final class EveryFillingTest {
    private static final Checks CHECKS = new Checks();

    public static void main(String[] args) {
        for (String letters : Fillings.ALL) {
            check(letters);
        }
        int runs = Fillings.ALL.size();
        CHECKS.holds("more than a thousand fillings, got " + runs, runs > 1000);
        CHECKS.end();
    }

    private static void check(String letters) {
        LzssFlags x = new LzssFlags();
        for (int place = 0; place < letters.length(); place++) {
            askRefusals(letters.substring(0, place), x);
            CHECKS.due("item " + place + " of " + letters, Fillings.put(x, letters, place),
                Fillings.bytes(letters.substring(0, place + 1)));
        }
        CHECKS.stands(letters, x, letters);
        askRefusals(letters, x);
        CHECKS.stands(letters + " and refusals", x, letters);
    }

    private static void askRefusals(String letters, LzssFlags x) {
        String when = "after " + letters;
        CHECKS.due(when + ": pair(-1, 3)", x.pair(-1, 3), -2);
        CHECKS.due(when + ": pair(4096, 19)", x.pair(4096, 19), -2);
        CHECKS.due(when + ": pair(4095, 2)", x.pair(4095, 2), -3);
        CHECKS.due(when + ": pair(0, 19)", x.pair(0, 19), -3);
        if (!Fillings.pairFits(letters)) {
            CHECKS.due(when + ": pair(0, 3)", x.pair(0, 3), -1);
        }
        if (!Fillings.literalFits(letters)) {
            CHECKS.due(when + ": literal(0)", x.literal(0), -1);
        }
    }
}
