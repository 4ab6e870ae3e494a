import java.util.ArrayList;
import java.util.List;

/**
 * Every order of literals ('l') and pairs ('p') that the 16 bytes can take, and what
 * the document says of the state after it, counted from the letters alone.
 */
final class Fillings {
    static final List<String> ALL = new ArrayList<>();
    /** Those after which a flag byte is open, and those after which none is. */
    static final List<String> OPEN = new ArrayList<>();
    static final List<String> NOT_OPEN = new ArrayList<>();

    static {
        addAllFrom("");
    }

    private Fillings() {
    }

    private static void addAllFrom(String letters) {
        if (bytes(letters) > 16) {
            return;
        }
        ALL.add(letters);
        (open(letters) ? OPEN : NOT_OPEN).add(letters);
        addAllFrom(letters + "l");
        addAllFrom(letters + "p");
    }

    static int bytes(String letters) {
        int flagBytes = (letters.length() + 7) / 8;
        int pairs = letters.replace("l", "").length();
        return flagBytes + letters.length() + pairs;
    }

    static boolean open(String letters) {
        return letters.length() % 8 != 0;
    }

    static int flagAt(String letters) {
        if (letters.isEmpty()) {
            return -1;
        }
        return bytes(letters.substring(0, (letters.length() - 1) / 8 * 8));
    }

    /** The bits of the latest flag byte, lowest first, one for each item of its group. */
    static int flagByte(String letters) {
        int flags = 0;
        for (int k = (letters.length() - 1) / 8 * 8; k < letters.length(); k++) {
            flags += letters.charAt(k) == 'l' ? 1 << k % 8 : 0;
        }
        return flags;
    }

    static boolean literalFits(String letters) {
        return bytes(letters + "l") <= 16;
    }

    static boolean pairFits(String letters) {
        return bytes(letters + "p") <= 16;
    }

    /** A new object with these items. */
    static LzssFlags made(String letters) {
        LzssFlags x = new LzssFlags();
        for (int place = 0; place < letters.length(); place++) {
            put(x, letters, place);
        }
        return x;
    }

    /** Writes the item at that place; each place has values of its own. */
    static int put(LzssFlags x, String letters, int place) {
        return letters.charAt(place) == 'l'
            ? x.literal(literalAt(place)) : x.pair(offsetAt(place), lengthAt(place));
    }

    private static int literalAt(int place) {
        return -1 - 17 * place;
    }

    private static int offsetAt(int place) {
        return 4000 - 277 * place;
    }

    private static int lengthAt(int place) {
        return 18 - place;
    }

    /** The bytes that are due, laid out group by group and not by a running mask. */
    static int[] layout(String letters) {
        int[] bytes = new int[bytes(letters)];
        int at = 0;
        for (int place = 0; place < letters.length(); place++) {
            if (place % 8 == 0) {
                int groupEnd = Math.min(place + 8, letters.length());
                bytes[at++] = flagByte(letters.substring(0, groupEnd));
            }
            if (letters.charAt(place) == 'l') {
                bytes[at++] = Math.floorMod(literalAt(place), 256);
            } else {
                bytes[at++] = offsetAt(place) % 256;
                bytes[at++] = offsetAt(place) / 256 * 16 + lengthAt(place) - 3;
            }
        }
        return bytes;
    }

    static int[] bytesOf(LzssFlags x) {
        int[] bytes = new int[x.size()];
        for (int i = 0; i < bytes.length; i++) {
            bytes[i] = x.out(i);
        }
        return bytes;
    }
}
