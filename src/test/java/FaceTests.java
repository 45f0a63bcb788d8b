import java.lang.reflect.Constructor;
import java.lang.reflect.Field;
import java.lang.reflect.Method;
import java.lang.reflect.Modifier;
import java.util.ArrayList;
import java.util.Arrays;
import java.util.List;
import java.util.TreeSet;

/** The class has the face of the document and no other member that can be seen from outside. */
public final class FaceTests {
    private static final String[] FACE = {
        "int append(int) throws IllegalArgumentException, IllegalStateException",
        "int clearText()",
        "int errorPosition()",
        "int load() throws IllegalStateException",
        "int about(int) throws IllegalArgumentException",
        "int reelOf(int, int) throws IndexOutOfBoundsException, IllegalArgumentException",
        "int sound(int, int) throws IndexOutOfBoundsException",
        "int silence(int, int, int) throws IndexOutOfBoundsException, IllegalArgumentException",
        "int piece(int, int, int) throws IndexOutOfBoundsException, IllegalArgumentException",
        "int loopOf(int, int) throws IndexOutOfBoundsException, IllegalArgumentException",
        "int cell(int, int) throws IndexOutOfBoundsException",
        "int reel(int) throws IllegalArgumentException, IllegalStateException",
        "int paint(int, int, int, int) throws IndexOutOfBoundsException, IllegalArgumentException",
        "int loop() throws IllegalStateException",
        "int splice(int, int, int, int) throws IndexOutOfBoundsException",
        "int unsplice(int) throws IndexOutOfBoundsException, IllegalStateException",
        "int speed(int, int, int) throws IndexOutOfBoundsException, IllegalArgumentException",
        "int mute(int, boolean) throws IndexOutOfBoundsException",
        "int ticks(int) throws IllegalArgumentException",
        "int record(int, int) throws IndexOutOfBoundsException, IllegalArgumentException",
        "int undo() throws IllegalStateException",
        "int soundIn(int) throws IllegalArgumentException",
        "int meet(int, int, int) throws IndexOutOfBoundsException, IllegalArgumentException",
        "int meetAll()",
        "int loudest(int, int) throws IllegalArgumentException",
        "int turnedBy(int, int) throws IndexOutOfBoundsException",
        "int runScript(int, long) throws IllegalArgumentException",
        "int simulate(long, int) throws IllegalArgumentException",
        "int save(int) throws IndexOutOfBoundsException",
        "int restore(int) throws IndexOutOfBoundsException, IllegalStateException",
    };

    private static String names(Class<?>[] types) {
        List<String> all = new ArrayList<>();
        for (Class<?> type : types) {
            all.add(type.getSimpleName());
        }
        return String.join(", ", all);
    }

    public static void main(String[] args) {
        TreeSet<String> seen = new TreeSet<>();
        TreeSet<String> hidden = new TreeSet<>();
        TreeSet<String> open = new TreeSet<>();
        for (Method m : SplicedLoops.class.getDeclaredMethods()) {
            if (Modifier.isPrivate(m.getModifiers()) || m.isSynthetic()) {
                hidden.add(m.getName());
                continue;
            }
            Due.due(m.getName() + " is public alone", m.getModifiers(), Modifier.PUBLIC);
            String thrown = names(m.getExceptionTypes());
            seen.add(m.getReturnType().getSimpleName() + " " + m.getName() + "(" + names(m.getParameterTypes()) + ")"
                + (thrown.isEmpty() ? "" : " throws " + thrown));
            open.add(m.getName());
        }
        for (Class<?> inner : SplicedLoops.class.getDeclaredClasses()) {
            Due.due(inner.getSimpleName() + " is static", Modifier.isStatic(inner.getModifiers()), true);
            Due.due(inner.getSimpleName() + " is hidden", inner.getModifiers() & (Modifier.PUBLIC | Modifier.PROTECTED), 0);
            for (Method m : inner.getDeclaredMethods()) {
                hidden.add(m.getName());
            }
        }
        Due.due("the methods", seen, new TreeSet<>(Arrays.asList(FACE)));
        hidden.retainAll(open);
        Due.due("the hidden methods with names of the face", hidden.toString(), "[]");
        for (Field f : SplicedLoops.class.getDeclaredFields()) {
            Due.due("the field " + f.getName() + " is hidden or NONE",
                Modifier.isPrivate(f.getModifiers()) || f.getName().equals("NONE"), true);
            Due.due("the static field " + f.getName() + " is final",
                !Modifier.isStatic(f.getModifiers()) || Modifier.isFinal(f.getModifiers()), true);
        }
        Constructor<?>[] makers = SplicedLoops.class.getDeclaredConstructors();
        Due.due("the constructors", makers.length, 1);
        Due.due("the constructor", Modifier.toString(makers[0].getModifiers()) + makers[0].getParameterCount(), "public0");
        Due.due("the class", Modifier.toString(SplicedLoops.class.getModifiers()), "public final");
        Due.due("NONE", SplicedLoops.NONE, -1);
        Due.close("FaceTests");
    }
}
