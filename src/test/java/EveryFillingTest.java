/**
 * Goes through every order of accepted literals and pairs until the store is full.
 * What is due is laid out anew from the list of items, group by group, and not by
 * the document's running mask, so that a slip in the steps is not made twice.
 * At each stop all refusals are asked for, and the rest of the run tells whether
 * they left the hidden mask alone.
 */
final class EveryFillingTest {
    private static final Checks CHECKS = new Checks();
    private static final int LITERAL = -1;

    public static void main(String[] args) {
        int[] items = new int[15];
        int runs = extend(items, 0);
        CHECKS.holds("more than a thousand fillings, got " + runs, runs > 1000);
        CHECKS.end();
    }

    private static int extend(int[] items, int count) {
        check(items, count);
        int runs = 1;
        items[count] = LITERAL;
        if (bytesOf(items, count + 1) <= 16) {
            runs += extend(items, count + 1);
        }
        items[count] = offsetAt(count);
        if (bytesOf(items, count + 1) <= 16) {
            runs += extend(items, count + 1);
        }
        return runs;
    }

    private static int literalAt(int place) {
        return -1 - 17 * place;
    }

    private static int offsetAt(int place) {
        return 4095 - 273 * place;
    }

    private static int lengthAt(int place) {
        return 3 + place;
    }

    private static int bytesOf(int[] items, int count) {
        int bytes = (count + 7) / 8;
        for (int k = 0; k < count; k++) {
            bytes += items[k] == LITERAL ? 1 : 2;
        }
        return bytes;
    }

    private static void check(int[] items, int count) {
        LzssFlags x = new LzssFlags();
        for (int k = 0; k < count; k++) {
            askRefusals(items, k, x);
            int answer = items[k] == LITERAL
                ? x.literal(literalAt(k)) : x.pair(items[k], lengthAt(k));
            CHECKS.due("item " + k + " of " + name(items, count), answer, bytesOf(items, k + 1));
        }
        int flagAt = count == 0 ? -1 : bytesOf(items, (count - 1) / 8 * 8);
        CHECKS.state(name(items, count), x, flagAt, layout(items, count));
        askRefusals(items, count, x);
        CHECKS.state(name(items, count) + " and refusals", x, flagAt, layout(items, count));
    }

    private static void askRefusals(int[] items, int count, LzssFlags x) {
        int groupByte = count % 8 == 0 ? 1 : 0;
        int free = 16 - bytesOf(items, count);
        String when = "after " + name(items, count);
        CHECKS.due(when + ": pair(-1, 3)", x.pair(-1, 3), -2);
        CHECKS.due(when + ": pair(4096, 19)", x.pair(4096, 19), -2);
        CHECKS.due(when + ": pair(4095, 2)", x.pair(4095, 2), -3);
        CHECKS.due(when + ": pair(0, 19)", x.pair(0, 19), -3);
        if (free < 2 + groupByte) {
            CHECKS.due(when + ": pair(0, 3)", x.pair(0, 3), -1);
        }
        if (free < 1 + groupByte) {
            CHECKS.due(when + ": literal(0)", x.literal(0), -1);
        }
    }

    private static int[] layout(int[] items, int count) {
        int[] bytes = new int[bytesOf(items, count)];
        int at = 0;
        for (int k = 0; k < count; k++) {
            if (k % 8 == 0) {
                bytes[at++] = flagByte(items, k, count);
            }
            if (items[k] == LITERAL) {
                bytes[at++] = Math.floorMod(literalAt(k), 256);
            } else {
                bytes[at++] = items[k] % 256;
                bytes[at++] = items[k] / 256 * 16 + lengthAt(k) - 3;
            }
        }
        return bytes;
    }

    private static int flagByte(int[] items, int first, int count) {
        int flags = 0;
        int bit = 1;
        for (int k = first; k < count && k < first + 8; k++) {
            flags += items[k] == LITERAL ? bit : 0;
            bit *= 2;
        }
        return flags;
    }

    private static String name(int[] items, int count) {
        StringBuilder letters = new StringBuilder();
        for (int k = 0; k < count; k++) {
            letters.append(items[k] == LITERAL ? 'l' : 'p');
        }
        return "'" + letters + "'";
    }
}
