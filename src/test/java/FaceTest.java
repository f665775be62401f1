import java.io.IOException;
import java.lang.reflect.Constructor;
import java.lang.reflect.Field;
import java.lang.reflect.Method;
import java.lang.reflect.Modifier;
import java.nio.file.Files;
import java.nio.file.Path;
import java.util.Set;
import java.util.TreeSet;

/** The face is the document's, to the letter, and nothing else can be seen from outside. */
public final class FaceTest {
    /** The code block of the section "The public face", as it stands there. */
    private static final String FACE = """
            public final class BitShuffler {
                public static final int ZERO = 64;
                public static final int ONE = 65;
                public BitShuffler();
                public void width(int n) throws IllegalArgumentException;
                public void target(int bit, int source) throws IllegalArgumentException;
                public int source(int bit) throws IllegalArgumentException;
                public int make(int kind) throws IllegalArgumentException, UnsupportedOperationException;
                public int size();
                public int step(int i, boolean distance) throws IndexOutOfBoundsException;
                public long mask(int i) throws IndexOutOfBoundsException;
                public void patch(int i, int amount, long mask) throws IndexOutOfBoundsException, IllegalArgumentException;
                public long run(long word);
                public long direct(long word);
                public int check();
                public long origins(int bit) throws IllegalArgumentException;
                public boolean constant(int bit) throws IllegalArgumentException;
                public int ticks();
                public int keep() throws IllegalStateException;
                public void join(int k) throws IllegalArgumentException, IllegalStateException;
                public void invert() throws UnsupportedOperationException;
                public int least() throws UnsupportedOperationException;
            }
            """;

    public static void main(String[] args) throws IOException {
        asTheDocumentWritesIt();
        Due.yes("public final class", Modifier.isPublic(BitShuffler.class.getModifiers())
                && Modifier.isFinal(BitShuffler.class.getModifiers()));
        Due.same("the face", visible().toString(), due().toString());
        Due.same("ZERO", BitShuffler.ZERO, 64);
        Due.same("ONE", BitShuffler.ONE, 65);
        nothingOfObject();
        noStateIsShared();
        Due.end();
    }

    /** Each line of the document's face, with the names of its parameters; and nothing else is public. */
    private static void asTheDocumentWritesIt() throws IOException {
        String source = Files.readString(Path.of("src/main/java/BitShuffler.java")).replaceAll("\\s+", " ");
        int publicLines = 0;
        for (String line : FACE.split("\n")) {
            if (line.contains("public ")) {
                boolean isMethod = line.contains("(");
                String due = isMethod ? line.trim().replace(";", " {") : line.trim();
                Due.yes("in the source: " + due, source.contains(" " + due));
                publicLines++;
            }
        }
        Due.same("lines of the face", publicLines, 22);
        Due.same("public in the source", source.split("\\bpublic ", -1).length - 1, publicLines);
        Due.yes("nothing is protected", !source.contains("protected "));
    }

    /** "the text of toString and the behaviour of equals and hashCode" are free: the class has none of its own. */
    private static void nothingOfObject() {
        Due.same("superclass", BitShuffler.class.getSuperclass().getName(), "java.lang.Object");
        Due.same("interfaces", BitShuffler.class.getInterfaces().length, 0);
        BitShuffler x = Look.of(1, 0);
        String before = Held.of(x, 2);
        x.equals(x);
        x.hashCode();
        x.toString();
        Due.same("behind equals, hashCode and toString", Held.of(x, 2), before);
    }

    /** The members of the document's face, without the names of parameters, which reflection does not have. */
    private static Set<String> due() {
        Set<String> members = new TreeSet<>();
        for (String line : FACE.split("\n")) {
            if (line.endsWith(";")) {
                members.add(line.trim().replaceAll("( = [0-9]+)?;", "").replaceAll("(int|long|boolean) \\w+(?=[,)])", "$1"));
            }
        }
        return members;
    }

    private static Set<String> visible() {
        Set<String> found = new TreeSet<>();
        for (Field f : BitShuffler.class.getDeclaredFields()) {
            if (!Modifier.isPrivate(f.getModifiers())) {
                found.add(Modifier.toString(f.getModifiers()) + " " + f.getType().getSimpleName() + " " + f.getName());
            }
        }
        for (Constructor<?> c : BitShuffler.class.getDeclaredConstructors()) {
            found.add(Modifier.toString(c.getModifiers()) + " " + c.getName() + "(" + names(c.getParameterTypes()) + ")");
        }
        Set<String> publicNames = new TreeSet<>();
        for (Method m : BitShuffler.class.getDeclaredMethods()) {
            if (!Modifier.isPrivate(m.getModifiers())) {
                String thrown = names(m.getExceptionTypes());
                found.add(Modifier.toString(m.getModifiers()) + " " + m.getReturnType().getSimpleName() + " " + m.getName()
                        + "(" + names(m.getParameterTypes()) + ")" + (thrown.isEmpty() ? "" : " throws " + thrown));
                publicNames.add(m.getName());
            }
        }
        for (Method m : BitShuffler.class.getDeclaredMethods()) {
            Due.yes("no private method is called " + m.getName(),
                    !Modifier.isPrivate(m.getModifiers()) || !publicNames.contains(m.getName()));
        }
        return found;
    }

    private static String names(Class<?>[] types) {
        StringBuilder text = new StringBuilder();
        for (int k = 0; k < types.length; k++) {
            text.append(k == 0 ? "" : ", ").append(types[k].getSimpleName());
        }
        return text.toString();
    }

    private static void noStateIsShared() {
        BitShuffler one = Look.of(1, 0, 65);
        one.make(0);
        one.keep();
        BitShuffler other = new BitShuffler();
        Due.same("another object's size()", other.size(), 0);
        Due.same("another object's map", Look.map(other, 8), "0 1 2 3 4 5 6 7");
        Due.refused("another object's join(0)", () -> other.join(0));
        other.width(5);
        other.make(3);
        other.check();
        Due.same("the first object's map", Look.map(one, 3), "1 0 65");
        Due.same("the first object's steps", Look.steps(one), "0:-1:0 2:0:1 3:0:0 0:1:0 2:0:2 3:0:0 4:0:4");
    }
}
