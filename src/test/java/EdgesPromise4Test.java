/** The edges that promise 4, out, names: a test for each sentence. */
final class EdgesPromise4Test {
    private static final Checks CHECKS = new Checks();

    public static void main(String[] args) {
        anyIntIsTaken();
        writtenBytesAreNeverNegative();
        flagBytesAreAnsweredWhileUnfinished();
        everyOtherIndexAnswersMinusOne();
        changesNothing();
        CHECKS.end();
    }

    private static void anyIntIsTaken() {
        CHECKS.sentence("out(int i) takes any int.");
        for (String letters : new String[] {"", "l", "llllllll", "lllppppp", "lppppppp"}) {
            LzssFlags x = Fillings.made(letters);
            int[] due = Fillings.layout(letters);
            for (int i : Ints.SPREAD) {
                CHECKS.due("out(" + i + ") after " + letters, x.out(i),
                    i >= 0 && i < due.length ? due[i] : -1);
            }
        }
    }

    private static void writtenBytesAreNeverNegative() {
        CHECKS.sentence("For 0 <= i < n it answers the byte at index i as a value from 0 to 255, "
            + "never negative.");
        LzssFlags x = new LzssFlags();
        for (int k = 0; k < 8; k++) {
            x.literal(-128 + 18 * k);
        }
        x.pair(4095, 18);
        x.literal(0);
        CHECKS.state("first to last", x, 9,
            255, 128, 146, 164, 182, 200, 218, 236, 254, 2, 255, 255, 0);
        for (String letters : Fillings.ALL) {
            LzssFlags filled = Fillings.made(letters);
            for (int i = 0; i < Fillings.bytes(letters); i++) {
                int answer = filled.out(i);
                CHECKS.holds("0..255 is out(" + i + ") after " + letters + ", answered " + answer,
                    answer >= 0 && answer <= 255);
            }
        }
    }

    private static void flagBytesAreAnsweredWhileUnfinished() {
        CHECKS.sentence("This holds for flag bytes as well as item bytes; a flag byte is answered "
            + "with the bits it has so far, even while its group is unfinished.");
        for (String letters : Fillings.ALL) {
            if (!letters.isEmpty()) {
                CHECKS.due("flag byte after " + letters,
                    Fillings.made(letters).out(Fillings.flagAt(letters)),
                    Fillings.flagByte(letters));
            }
        }
    }

    private static void everyOtherIndexAnswersMinusOne() {
        CHECKS.sentence("For every other i (negative, equal to n, or greater than n, up to the "
            + "extreme int values) it answers -1.");
        for (int count = 0; count <= 14; count++) {
            LzssFlags x = Checks.literals(count);
            int n = Fillings.bytes("l".repeat(count));
            for (int i : Ints.SPREAD) {
                if (i < 0 || i >= n) {
                    CHECKS.due(n + " bytes: out(" + i + ")", x.out(i), -1);
                }
            }
        }
        for (String letters : Fillings.ALL) {
            LzssFlags x = Fillings.made(letters);
            int n = Fillings.bytes(letters);
            CHECKS.due("out(n) after " + letters, x.out(n), -1);
            CHECKS.due("out(n + 1) after " + letters, x.out(n + 1), -1);
            CHECKS.due("out(-1) after " + letters, x.out(-1), -1);
        }
    }

    private static void changesNothing() {
        CHECKS.sentence("out: It changes nothing.");
        for (String letters : Fillings.ALL) {
            LzssFlags x = Fillings.made(letters);
            readAll(x);
            CHECKS.stands("read after " + letters, x, letters);
            LzssFlags on = Fillings.made(letters);
            readAll(on);
            CHECKS.goesOn("read after " + letters, on, letters);
        }
    }

    private static void readAll(LzssFlags x) {
        for (int i = -2; i <= 18; i++) {
            x.out(i);
        }
        x.out(Integer.MIN_VALUE);
        x.out(Integer.MAX_VALUE);
    }
}
