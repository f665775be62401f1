import java.lang.reflect.Constructor;
import java.lang.reflect.Field;
import java.lang.reflect.Method;
import java.lang.reflect.Modifier;
import java.util.Arrays;
import java.util.Set;
import java.util.TreeSet;

/** The face is the document's, to the letter, and nothing else can be seen from outside. */
public final class FaceTest {
    public static void main(String[] args) {
        Due.yes("public final class", Modifier.isPublic(BitShuffler.class.getModifiers())
                && Modifier.isFinal(BitShuffler.class.getModifiers()));
        Set<String> due = new TreeSet<>(Arrays.asList(
                "int ZERO", "int ONE", "new()",
                "void width(int) IllegalArgumentException",
                "void target(int, int) IllegalArgumentException",
                "int source(int) IllegalArgumentException",
                "int make(int) IllegalArgumentException UnsupportedOperationException",
                "int size()",
                "int step(int, boolean) IndexOutOfBoundsException",
                "long mask(int) IndexOutOfBoundsException",
                "void patch(int, int, long) IndexOutOfBoundsException IllegalArgumentException",
                "long run(long)",
                "long direct(long)",
                "int check()",
                "long origins(int) IllegalArgumentException",
                "boolean constant(int) IllegalArgumentException",
                "int ticks()",
                "int keep() IllegalStateException",
                "void join(int) IllegalArgumentException IllegalStateException",
                "void invert() UnsupportedOperationException",
                "int least() UnsupportedOperationException"));
        Due.same("the face", visible().toString(), due.toString());
        Due.same("ZERO", BitShuffler.ZERO, 64);
        Due.same("ONE", BitShuffler.ONE, 65);
        noStateIsShared();
        Due.end();
    }

    private static Set<String> visible() {
        Set<String> found = new TreeSet<>();
        for (Field f : BitShuffler.class.getDeclaredFields()) {
            if (!Modifier.isPrivate(f.getModifiers())) {
                found.add(f.getType().getSimpleName() + " " + f.getName());
                Due.yes(f.getName() + " is public, static and final", Modifier.isPublic(f.getModifiers())
                        && Modifier.isStatic(f.getModifiers()) && Modifier.isFinal(f.getModifiers()));
            }
        }
        for (Constructor<?> c : BitShuffler.class.getDeclaredConstructors()) {
            found.add("new(" + names(c.getParameterTypes(), ", ") + ")");
            Due.yes("the constructor is public", Modifier.isPublic(c.getModifiers()));
        }
        Set<String> publicNames = new TreeSet<>();
        for (Method m : BitShuffler.class.getDeclaredMethods()) {
            if (!Modifier.isPrivate(m.getModifiers())) {
                String thrown = names(m.getExceptionTypes(), " ");
                found.add(m.getReturnType().getSimpleName() + " " + m.getName() + "("
                        + names(m.getParameterTypes(), ", ") + ")" + (thrown.isEmpty() ? "" : " " + thrown));
                Due.yes(m.getName() + " is public", Modifier.isPublic(m.getModifiers()));
                publicNames.add(m.getName());
            }
        }
        for (Method m : BitShuffler.class.getDeclaredMethods()) {
            Due.yes("no private method is called " + m.getName(),
                    !Modifier.isPrivate(m.getModifiers()) || !publicNames.contains(m.getName()));
        }
        return found;
    }

    private static String names(Class<?>[] types, String between) {
        StringBuilder text = new StringBuilder();
        for (int k = 0; k < types.length; k++) {
            text.append(k == 0 ? "" : between).append(types[k].getSimpleName());
        }
        return text.toString();
    }

    private static void noStateIsShared() {
        BitShuffler one = Look.of(1, 0, 65);
        one.make(0);
        one.keep();
        BitShuffler other = new BitShuffler();
        Due.same("another object's size()", other.size(), 0);
        Due.same("another object's map", Look.map(other, 8), "0 1 2 3 4 5 6 7");
        Due.refused("another object's join(0)", () -> other.join(0));
        other.width(5);
        other.make(3);
        other.check();
        Due.same("the first object's map", Look.map(one, 3), "1 0 65");
        Due.same("the first object's steps", Look.steps(one), "0:-1:0 2:0:1 3:0:0 0:1:0 2:0:2 3:0:0 4:0:4");
    }
}
