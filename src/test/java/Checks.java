/** Counts the answers that are not as due; shared by all tests of the project. */
final class Checks {
    private int asked = 0;
    private int wrong = 0;

    void due(String what, int got, int want) {
        asked++;
        if (got != want) {
            wrong++;
            System.out.println(what + " answered " + got + ", due is " + want);
        }
    }

    void holds(String what, boolean condition) {
        asked++;
        if (!condition) {
            wrong++;
            System.out.println("does not hold: " + what);
        }
    }

    /** The whole visible state at once: bytes, size and flagAt. */
    void state(String when, LzssFlags x, int flagAt, int... bytes) {
        due(when + ": size()", x.size(), bytes.length);
        due(when + ": flagAt()", x.flagAt(), flagAt);
        for (int i = 0; i < bytes.length; i++) {
            due(when + ": out(" + i + ")", x.out(i), bytes[i]);
        }
        for (int i = bytes.length; i < 20; i++) {
            due(when + ": out(" + i + ")", x.out(i), -1);
        }
    }

    void end() {
        System.out.println(asked + " checks, " + wrong + " wrong");
        if (wrong != 0) {
            System.exit(1);
        }
    }

    static LzssFlags literals(int count) {
        LzssFlags x = new LzssFlags();
        for (int i = 0; i < count; i++) {
            x.literal(i);
        }
        return x;
    }

    /** 'l' is literal(200), 'p' is pair(4095, 18); all are expected to fit. */
    static LzssFlags items(String letters) {
        LzssFlags x = new LzssFlags();
        for (char c : letters.toCharArray()) {
            int answer = c == 'l' ? x.literal(200) : x.pair(4095, 18);
            if (answer < 0) {
                throw new IllegalStateException("does not fit: " + letters);
            }
        }
        return x;
    }
}
