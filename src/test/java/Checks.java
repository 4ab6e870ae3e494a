/** Counts the answers that are not as due; shared by all tests of the project. */
final class Checks {
    private int asked = 0;
    private int wrong = 0;
    private String sentence = "";

    /** The words of the document that the checks from here on hold it to. */
    void sentence(String words) {
        sentence = "\"" + words + "\": ";
    }

    void due(String what, int got, int want) {
        asked++;
        if (got != want) {
            wrong++;
            System.out.println(sentence + what + " answered " + got + ", due is " + want);
        }
    }

    void holds(String what, boolean condition) {
        asked++;
        if (!condition) {
            wrong++;
            System.out.println(sentence + "does not hold: " + what);
        }
    }

    /** The whole visible state at once: bytes, size and flagAt. */
    void state(String when, LzssFlags x, int flagAt, int... bytes) {
        due(when + ": size()", x.size(), bytes.length);
        due(when + ": flagAt()", x.flagAt(), flagAt);
        for (int i = 0; i < bytes.length; i++) {
            due(when + ": out(" + i + ")", x.out(i), bytes[i]);
        }
        for (int i = bytes.length; i < 20; i++) {
            due(when + ": out(" + i + ")", x.out(i), -1);
        }
    }

    /** That x is to be seen where the items of these letters leave it. */
    void stands(String when, LzssFlags x, String letters) {
        state(when, x, Fillings.flagAt(letters), Fillings.layout(letters));
    }

    /**
     * That x goes on from these letters with literals as it should, until it is full.
     * The mask cannot be read, but it decides the bits and the room of what comes next.
     * Nothing is read before the end, lest the reading hide or do what is looked for.
     */
    void goesOn(String when, LzssFlags x, String letters) {
        String all = letters;
        while (Fillings.literalFits(all)) {
            all += "l";
            due(when + ", on to " + all, Fillings.put(x, all, all.length() - 1),
                Fillings.bytes(all));
        }
        due(when + ", on past " + all, x.literal(0), -1);
        stands(when + ", on to " + all, x, all);
    }

    /** That a refused call, or calls on other objects, left x alone; x is used up. */
    void stayed(String when, LzssFlags x, String letters) {
        stands(when, x, letters);
        goesOn(when, x, letters);
    }

    void end() {
        System.out.println(asked + " checks, " + wrong + " wrong");
        if (wrong != 0) {
            System.exit(1);
        }
    }

    static LzssFlags literals(int count) {
        LzssFlags x = new LzssFlags();
        for (int i = 0; i < count; i++) {
            x.literal(i);
        }
        return x;
    }

    /** 'l' is literal(200), 'p' is pair(4095, 18); all are expected to fit. */
    static LzssFlags items(String letters) {
        LzssFlags x = new LzssFlags();
        for (char c : letters.toCharArray()) {
            int answer = c == 'l' ? x.literal(200) : x.pair(4095, 18);
            if (answer < 0) {
                throw new IllegalStateException("does not fit: " + letters);
            }
        }
        return x;
    }
}
