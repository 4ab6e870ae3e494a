import java.util.TreeSet;

/** Ints from all over the range: around zero, around every power of two, and the ends. */
final class Ints {
    static final int[] SPREAD = spread();

    private Ints() {
    }

    private static int[] spread() {
        TreeSet<Integer> all = new TreeSet<>();
        for (int i = -300; i <= 300; i++) {
            all.add(i);
        }
        for (int power = 0; power < 32; power++) {
            for (int beside = -2; beside <= 2; beside++) {
                all.add((1 << power) + beside);
                all.add(-(1 << power) + beside);
            }
        }
        return all.stream().mapToInt(Integer::intValue).toArray();
    }
}
