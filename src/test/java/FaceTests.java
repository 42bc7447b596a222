import java.lang.reflect.Constructor;
import java.lang.reflect.Field;
import java.lang.reflect.Method;
import java.lang.reflect.Modifier;
import java.util.Arrays;
import java.util.Set;
import java.util.TreeSet;

/** The public face is that of the document, and nothing else can be seen. */
public final class FaceTests {
    private static final String[] FACE = {
        "int start(int, int) IllegalArgumentException",
        "int tick(int) IllegalArgumentException",
        "int setDelay(int) IllegalArgumentException",
        "boolean setLink(int, int, boolean) IndexOutOfBoundsException IllegalArgumentException",
        "int crash(int) IndexOutOfBoundsException IllegalStateException",
        "int restart(int) IndexOutOfBoundsException IllegalStateException",
        "int submit(int, int) IndexOutOfBoundsException IllegalStateException"
            + " UnsupportedOperationException",
        "int reconfigure(int, int) IndexOutOfBoundsException IllegalArgumentException"
            + " IllegalStateException UnsupportedOperationException",
        "int pack(int) IndexOutOfBoundsException IllegalStateException",
        "int read(int) IndexOutOfBoundsException IllegalStateException"
            + " UnsupportedOperationException",
        "int node(int, int) IndexOutOfBoundsException IllegalArgumentException",
        "int noted(int, int, int) IndexOutOfBoundsException IllegalArgumentException"
            + " IllegalStateException",
        "int entry(int, int, int) IndexOutOfBoundsException IllegalArgumentException",
        "int messages()",
        "int message(int, int) IndexOutOfBoundsException IllegalArgumentException",
        "int lose(int) IndexOutOfBoundsException",
        "int leader() NoSuchElementException",
        "int winner(int) NoSuchElementException",
        "int alike(int, int) IndexOutOfBoundsException",
        "int statistic(int) IllegalArgumentException",
        "double share(int) IndexOutOfBoundsException ArithmeticException",
        "int feed(char) IllegalStateException",
        "int perform() UnsupportedOperationException",
        "int write(int) IndexOutOfBoundsException",
        "char text(int) IndexOutOfBoundsException",
        "int save()",
        "int restore() IllegalStateException",
    };

    private FaceTests() { }

    public static void main(String[] args) {
        Set<String> seen = new TreeSet<>();
        Set<String> hidden = new TreeSet<>();
        for (Method m : QuorumLog.class.getDeclaredMethods()) {
            if (Modifier.isPrivate(m.getModifiers())) {
                hidden.add(m.getName());
            } else {
                seen.add(told(m));
            }
        }
        Check.holds("the methods are those of the document: " + seen,
                seen.equals(new TreeSet<>(Arrays.asList(FACE))));
        for (Method m : QuorumLog.class.getDeclaredMethods()) {
            Check.holds("no private method is named " + m.getName(),
                    Modifier.isPrivate(m.getModifiers()) || !hidden.contains(m.getName()));
        }
        for (Field f : QuorumLog.class.getDeclaredFields()) {
            Check.holds(f.getName() + " is private", Modifier.isPrivate(f.getModifiers()));
            Check.holds(f.getName() + " is final if it is static",
                    !Modifier.isStatic(f.getModifiers()) || Modifier.isFinal(f.getModifiers()));
        }
        Constructor<?>[] made = QuorumLog.class.getDeclaredConstructors();
        Check.same("the number of constructors", made.length, 1);
        Check.holds("the constructor is public and without parameters",
                Modifier.isPublic(made[0].getModifiers()) && made[0].getParameterCount() == 0);
        Check.holds("the class is public and final",
                Modifier.isPublic(QuorumLog.class.getModifiers())
                        && Modifier.isFinal(QuorumLog.class.getModifiers()));
        Check.end("FaceTests");
    }

    private static String told(Method m) {
        StringBuilder text = new StringBuilder();
        text.append(m.getReturnType().getSimpleName()).append(' ').append(m.getName()).append('(');
        for (int i = 0; i < m.getParameterCount(); i++) {
            text.append(i > 0 ? ", " : "").append(m.getParameterTypes()[i].getSimpleName());
        }
        text.append(')');
        for (Class<?> thrown : m.getExceptionTypes()) {
            text.append(' ').append(thrown.getSimpleName());
        }
        return text.toString();
    }
}
