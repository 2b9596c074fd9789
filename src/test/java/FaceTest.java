import java.lang.reflect.Constructor;
import java.lang.reflect.Field;
import java.lang.reflect.Method;
import java.lang.reflect.Modifier;
import java.util.TreeSet;

/** The class shows the document's face and nothing else. */
final class FaceTest {
    private static final String FACE = "add()I address()J boot(Z)I cause(II)I drop()I feed(IJ)I "
            + "flags(J)J forget()V give(J)I link(Z)I list(II)I look(I)J map()I merge()I named()I "
            + "near(J)J out(I)J pack()I peek(J)I place(I)J section(II)I sum(III)J taken(II)Z "
            + "wish()I";

    public static void main(String[] args) {
        Bench.due("public and final", LinkHouse.class.getModifiers(),
                Modifier.PUBLIC | Modifier.FINAL);
        TreeSet<String> shown = new TreeSet<>();
        TreeSet<String> publicNames = new TreeSet<>();
        for (Method m : LinkHouse.class.getDeclaredMethods()) {
            if (Modifier.isPublic(m.getModifiers())) {
                shown.add(m.getName() + shape(m));
                publicNames.add(m.getName());
            } else {
                Bench.due(m + " is private", Modifier.isPrivate(m.getModifiers()), true);
            }
        }
        Bench.due("methods", String.join(" ", shown), FACE);
        for (Method m : LinkHouse.class.getDeclaredMethods()) {
            boolean shared = !Modifier.isPublic(m.getModifiers())
                    && publicNames.contains(m.getName());
            Bench.due(m + " bears a public name", shared, false);
        }
        for (Field f : LinkHouse.class.getDeclaredFields()) {
            Bench.due(f + " is private", Modifier.isPrivate(f.getModifiers()), true);
        }
        for (Constructor<?> c : LinkHouse.class.getDeclaredConstructors()) {
            Bench.due(c + " is the public one", c.toString(), "public LinkHouse()");
        }
        Bench.end();
    }

    private static String shape(Method m) {
        StringBuilder text = new StringBuilder("(");
        for (Class<?> type : m.getParameterTypes()) {
            text.append(letter(type));
        }
        return text.append(')').append(letter(m.getReturnType())).toString();
    }

    private static char letter(Class<?> type) {
        if (type == int.class) {
            return 'I';
        }
        if (type == long.class) {
            return 'J';
        }
        if (type == boolean.class) {
            return 'Z';
        }
        return type == void.class ? 'V' : '?';
    }
}
