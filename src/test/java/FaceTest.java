import java.lang.reflect.Constructor;
import java.lang.reflect.Field;
import java.lang.reflect.Method;
import java.lang.reflect.Modifier;
import java.util.ArrayList;
import java.util.Arrays;
import java.util.List;
import java.util.TreeSet;

/** The face of the class is just the document's: its members, their types, the exceptions that they declare. */
public final class FaceTest {
    static int wrong = 0;

    static final String[] FACE = {
        "int feed(int,int,int,int,int)",
        "boolean end(int)",
        "int acts() IllegalArgumentException",
        "int fault()",
        "int why()",
        "int send(int,int,int,int) IllegalArgumentException IllegalStateException",
        "int bell()",
        "int drop(int) IllegalStateException",
        "int pause(int,boolean) IllegalStateException",
        "int rate(int,int) IllegalArgumentException IllegalStateException",
        "int tick(int) IllegalArgumentException IllegalStateException",
        "int undo() IllegalStateException",
        "int told(int,int) IndexOutOfBoundsException NoSuchElementException",
        "int piece(int,int,int) IndexOutOfBoundsException NoSuchElementException",
        "int octet(int,int,int) IndexOutOfBoundsException",
        "int holder(int,int) IndexOutOfBoundsException",
        "int flow(int,int) IndexOutOfBoundsException NoSuchElementException",
        "int burst(int,int) IndexOutOfBoundsException IllegalArgumentException",
        "int done(int,boolean)",
        "int log(int,int) NoSuchElementException",
        "int latest(int)",
        "int merged(int,boolean) IndexOutOfBoundsException",
        "int share(int) IndexOutOfBoundsException",
        "int calendar(int,int) IllegalArgumentException",
        "int delay(int) IndexOutOfBoundsException",
        "int rest()",
        "int queue(int,boolean)",
        "boolean finds(int,int,int,int) IndexOutOfBoundsException IllegalArgumentException",
        "int blind(int,int) IndexOutOfBoundsException",
        "int works(int) IllegalArgumentException",
        "int quiet()",
        "int ends(int) IndexOutOfBoundsException",
        "int last()",
        "int least(int,int) IndexOutOfBoundsException IllegalArgumentException",
        "int first(boolean)",
        "void image()",
        "boolean back()",
        "int count(int)",
    };

    static void due(boolean ok, String what) {
        if (!ok) {
            wrong++;
            System.out.println("face: " + what);
        }
    }

    static String told(Method m) {
        StringBuilder b = new StringBuilder(m.getReturnType() + " " + m.getName() + "(");
        List<String> types = new ArrayList<>();
        for (Class<?> c : m.getParameterTypes()) {
            types.add(c.toString());
        }
        b.append(String.join(",", types)).append(")");
        for (Class<?> c : m.getExceptionTypes()) {
            b.append(" ").append(c.getSimpleName());
        }
        return b.toString();
    }

    public static void main(String[] args) throws ReflectiveOperationException {
        Class<CardCutter> c = CardCutter.class;
        due(Modifier.isPublic(c.getModifiers()) && Modifier.isFinal(c.getModifiers()), "the class is public and final");
        TreeSet<String> found = new TreeSet<>();
        TreeSet<String> names = new TreeSet<>();
        for (Method m : c.getDeclaredMethods()) {
            if (Modifier.isPublic(m.getModifiers())) {
                due(!Modifier.isStatic(m.getModifiers()), m.getName() + " is static");
                found.add(told(m));
                names.add(m.getName());
            }
        }
        due(found.equals(new TreeSet<>(Arrays.asList(FACE))), "methods are " + found);
        for (Method m : c.getDeclaredMethods()) {
            boolean open = Modifier.isPublic(m.getModifiers());
            due(open || m.isSynthetic() || Modifier.isPrivate(m.getModifiers()), m.getName() + " is seen outside");
            due(open || !names.contains(m.getName()), m.getName() + " bears the name of a public one");
        }
        for (Class<?> inner : c.getDeclaredClasses()) {
            due(Modifier.isStatic(inner.getModifiers()) && !Modifier.isPublic(inner.getModifiers()), inner + " is not private and static");
            for (Method m : inner.getDeclaredMethods()) {
                due(!names.contains(m.getName()), inner + " has a method " + m.getName());
            }
        }
        for (Field f : c.getDeclaredFields()) {
            boolean none = f.getName().equals("NONE") && Modifier.isPublic(f.getModifiers());
            due(none || Modifier.isPrivate(f.getModifiers()), f.getName() + " is seen outside");
        }
        Field none = c.getField("NONE");
        due(Modifier.isStatic(none.getModifiers()) && Modifier.isFinal(none.getModifiers()) && none.getInt(null) == -1, "NONE is -1");
        Constructor<?>[] makers = c.getDeclaredConstructors();
        due(makers.length == 1 && Modifier.isPublic(makers[0].getModifiers()) && makers[0].getParameterCount() == 0, "one constructor");
        System.out.println("face: " + wrong + " wrong");
        if (wrong != 0) {
            System.exit(1);
        }
    }
}
