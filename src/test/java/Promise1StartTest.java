import java.lang.reflect.Constructor;
import java.lang.reflect.Field;
import java.lang.reflect.Method;
import java.lang.reflect.Modifier;
import java.util.Set;
import java.util.TreeSet;

final class Promise1StartTest {
    private static final Checks CHECKS = new Checks();

    public static void main(String[] args) {
        freshObjectIsEmpty();
        noFlagByteBeforeTheFirstAcceptedItem();
        objectsAreApart();
        publicFaceIsTheDocuments();
        CHECKS.end();
    }

    private static void freshObjectIsEmpty() {
        LzssFlags x = new LzssFlags();
        CHECKS.state("fresh", x, -1);
        for (int i : new int[] {Integer.MIN_VALUE, -16, -1, 0, 1, 15, 16, 255, Integer.MAX_VALUE}) {
            CHECKS.due("fresh: out(" + i + ")", x.out(i), -1);
        }
    }

    private static void noFlagByteBeforeTheFirstAcceptedItem() {
        LzssFlags x = new LzssFlags();
        x.pair(-1, 3);
        x.pair(0, 2);
        CHECKS.state("fresh after refusals", x, -1);
        CHECKS.due("first literal", x.literal(9), 2);
        CHECKS.state("after the first literal", x, 0, 1, 9);
    }

    private static void objectsAreApart() {
        LzssFlags a = new LzssFlags();
        LzssFlags b = new LzssFlags();
        a.literal(1);
        CHECKS.state("the other one", b, -1);
        b.pair(291, 5);
        a.literal(2);
        LzssFlags c = new LzssFlags();
        CHECKS.state("a", a, 0, 3, 1, 2);
        CHECKS.state("b", b, 0, 0, 35, 18);
        CHECKS.state("c, made later", c, -1);
    }

    private static void publicFaceIsTheDocuments() {
        Class<?> type = LzssFlags.class;
        CHECKS.holds("public final class",
            Modifier.isPublic(type.getModifiers()) && Modifier.isFinal(type.getModifiers()));
        // What is inherited or nested would be visible members too.
        CHECKS.holds("extends no class of its own", type.getSuperclass() == Object.class);
        CHECKS.due("interfaces", type.getInterfaces().length, 0);
        CHECKS.due("nested classes", type.getDeclaredClasses().length, 0);
        Set<String> visible = new TreeSet<>();
        for (Method m : type.getDeclaredMethods()) {
            if (!Modifier.isPrivate(m.getModifiers())) {
                visible.add(m.toString());
            }
        }
        for (Constructor<?> c : type.getDeclaredConstructors()) {
            if (!Modifier.isPrivate(c.getModifiers())) {
                visible.add(c.toString());
            }
        }
        for (Field f : type.getDeclaredFields()) {
            if (!Modifier.isPrivate(f.getModifiers())) {
                visible.add(f.toString());
            }
        }
        Set<String> face = new TreeSet<>(Set.of(
            "public LzssFlags()",
            "public int LzssFlags.literal(int)",
            "public int LzssFlags.pair(int,int)",
            "public int LzssFlags.out(int)",
            "public int LzssFlags.size()",
            "public int LzssFlags.flagAt()"));
        CHECKS.holds("visible members " + visible + " are " + face, visible.equals(face));
    }
}
