import java.lang.reflect.Constructor;
import java.lang.reflect.Field;
import java.lang.reflect.Method;
import java.lang.reflect.Modifier;
import java.util.HashSet;
import java.util.Set;
import java.util.TreeSet;

/** The public face, and what LANGUAGE.md asks of the class's members. */
public final class FaceTest {
    private static final String[] FACE = {
        "int sets(int,int)", "int gate(int,int,int)", "int gain(int,int,int)", "int draw(int)",
        "int sender(int,int,int)", "int sends(int)", "int again(int)", "int ticks(int)",
        "int renews(int)", "int of(int,int)", "int margin(int,int)", "int hears(int,int)",
        "int at(int,int)", "int all(int)", "int window(int,int)", "int copy(int,int)",
        "int type(int)", "int clear()", "int does()", "int told(int)", "long digest()"};

    public static void main(String[] args) {
        Due due = new Due();
        due.is("NONE", StarSenders.NONE, -1);
        due.is("BAD", StarSenders.BAD, -2);
        due.is("NO", StarSenders.NO, -3);
        due.is("FULL", StarSenders.FULL, -4);
        looksAtMethods(due);
        looksAtFields(due);
        looksAtClasses(due);
        due.end();
    }

    private static void looksAtMethods(Due due) {
        Set<String> wanted = new TreeSet<>(Set.of(FACE));
        Set<String> found = new TreeSet<>();
        Set<String> publicNames = new HashSet<>();
        for (Method m : StarSenders.class.getDeclaredMethods()) {
            if (!Modifier.isPrivate(m.getModifiers())) {
                due.holds(m + " is public and not static", m.getModifiers() == Modifier.PUBLIC);
                found.add(written(m));
                publicNames.add(m.getName());
            }
        }
        due.holds("the methods are those of the document: " + found, found.equals(wanted));
        for (Method m : StarSenders.class.getDeclaredMethods()) {
            due.holds(m + " has a name of its own",
                Modifier.isPublic(m.getModifiers()) || !publicNames.contains(m.getName()));
        }
        Constructor<?>[] made = StarSenders.class.getDeclaredConstructors();
        due.holds("one public constructor without parameters", made.length == 1
            && Modifier.isPublic(made[0].getModifiers()) && made[0].getParameterCount() == 0);
        due.holds("the class is public and final",
            (StarSenders.class.getModifiers() & (Modifier.PUBLIC | Modifier.FINAL)) == (Modifier.PUBLIC | Modifier.FINAL));
    }

    private static String written(Method m) {
        StringBuilder b = new StringBuilder().append(m.getReturnType()).append(' ').append(m.getName()).append('(');
        for (Class<?> p : m.getParameterTypes()) {
            b.append(b.charAt(b.length() - 1) == '(' ? "" : ",").append(p);
        }
        return b.append(')').toString();
    }

    private static void looksAtFields(Due due) {
        Set<String> constants = Set.of("NONE", "BAD", "NO", "FULL");
        for (Field f : StarSenders.class.getDeclaredFields()) {
            if (constants.contains(f.getName())) {
                due.holds(f + " is a public constant",
                    f.getModifiers() == (Modifier.PUBLIC | Modifier.STATIC | Modifier.FINAL) && f.getType() == int.class);
            } else {
                due.holds(f + " is private", Modifier.isPrivate(f.getModifiers()));
            }
            due.holds(f + " is no static state",
                !Modifier.isStatic(f.getModifiers()) || Modifier.isFinal(f.getModifiers()));
        }
    }

    private static void looksAtClasses(Due due) {
        Set<String> publicNames = new HashSet<>();
        for (String method : FACE) {
            publicNames.add(method.substring(method.indexOf(' ') + 1, method.indexOf('(')));
        }
        Class<?>[] inside = StarSenders.class.getDeclaredClasses();
        due.holds("at most twelve classes", inside.length + 1 <= 12);
        for (Class<?> c : inside) {
            int m = c.getModifiers();
            due.holds(c + " is static and not public", Modifier.isStatic(m) && !Modifier.isPublic(m) && !Modifier.isProtected(m));
            int fields = 0;
            for (Field f : c.getDeclaredFields()) {
                due.holds(f + " is no static state", !Modifier.isStatic(f.getModifiers()) || Modifier.isFinal(f.getModifiers()));
                fields += Modifier.isStatic(f.getModifiers()) ? 0 : 1;
            }
            due.holds(c + " has at most twenty fields", fields <= 20);
            for (Method method : c.getDeclaredMethods()) {
                due.holds(method + " takes at most seven parameters", method.getParameterCount() <= 7);
                due.holds(method + " has a name of its own", !publicNames.contains(method.getName()));
            }
        }
    }
}
