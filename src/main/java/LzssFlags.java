public final class LzssFlags {
    private static final int CAPACITY = 16;
    private static final int BYTE_BITS = 255;

    private static final int MAX_OFFSET = 4095;
    private static final int MIN_LENGTH = 3;
    private static final int MAX_LENGTH = 18;

    private static final int NO_ROOM = -1;
    private static final int BAD_OFFSET = -2;
    private static final int BAD_LENGTH = -3;
    private static final int NO_BYTE = -1;

    // Ints rather than bytes, so that a stored 128..255 never reads back negative.
    private final int[] store = new int[CAPACITY];
    private int written = 0;
    private int flagIndex = -1;
    // Zero while no flag byte is open; otherwise flagIndex is a written index.
    private int mask = 0;

    public LzssFlags() {
    }

    public int literal(int b) {
        if (!openFor(1)) {
            return NO_ROOM;
        }
        store[flagIndex] |= mask;
        append(b);
        closeItem();
        return written;
    }

    public int pair(int off, int len) {
        if (off < 0 || off > MAX_OFFSET) {
            return BAD_OFFSET;
        }
        if (len < MIN_LENGTH || len > MAX_LENGTH) {
            return BAD_LENGTH;
        }
        if (!openFor(2)) {
            return NO_ROOM;
        }
        append(off);
        append(((off >> 4) & 240) | (len - MIN_LENGTH));
        closeItem();
        return written;
    }

    public int out(int i) {
        if (i < 0 || i >= written) {
            return NO_BYTE;
        }
        return store[i];
    }

    public int size() {
        return written;
    }

    public int flagAt() {
        return flagIndex;
    }

    // Room for the flag byte and the item is weighed together, before anything
    // is written, so that a refused item never leaves an empty group behind.
    private boolean openFor(int itemBytes) {
        int need = mask == 0 ? itemBytes + 1 : itemBytes;
        if (written + need > CAPACITY) {
            return false;
        }
        if (mask == 0) {
            flagIndex = written;
            append(0);
            mask = 1;
        }
        return true;
    }

    // Callers have been through openFor, which vouches for the room.
    private void append(int value) {
        store[written] = value & BYTE_BITS;
        written++;
    }

    // The eighth item's bit is shifted out, which leaves zero: no open group.
    private void closeItem() {
        mask = (mask << 1) & BYTE_BITS;
    }
}
