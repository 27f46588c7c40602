import java.lang.reflect.Constructor;
import java.lang.reflect.Field;
import java.lang.reflect.Method;
import java.lang.reflect.Modifier;
import java.util.Arrays;
import java.util.Set;
import java.util.TreeSet;

/** The class's face is the document's, with nothing beside it that is not private. */
public final class FaceTest {
    private static final Set<String> FACE = new TreeSet<>(Arrays.asList(
        "int feed(int,int,int,int,int)", "int text(int)", "int fault()", "int where()", "int about(int)",
        "int bench(int,int)", "int timeOf(int,int)", "int stream(int,int)", "int cardsOf(int,int,int)",
        "boolean begin(boolean)", "int run(int)", "int does(int,int)", "int counts(int,int)",
        "int orders(int,int)", "int starved(int)", "int peak(int)", "int firstOf(int)", "int rate(int)",
        "int busiest()", "int yields(int)", "int would(int,int,int,int)", "int fewest(int,int)",
        "int thin(int)", "int thinAt(int,int,int)", "int helps(int)", "int holds(int)",
        "int comesAgain(int,int)", "int cards(int,int,int)", "int time(int,int,int)", "int rule(int)",
        "int undo()", "boolean keep(int)", "boolean back(int)", "int letter(boolean,int,int)",
        "int bytes()", "int trouble()"));
    private static int wrong = 0;

    public static void main(String[] args) {
        Class<?> c = PullCards.class;
        is("public final class", c.getModifiers() == (Modifier.PUBLIC | Modifier.FINAL));
        Set<String> found = new TreeSet<>();
        Set<String> names = new TreeSet<>();
        for (Method m : c.getDeclaredMethods()) {
            if (!Modifier.isPrivate(m.getModifiers())) {
                is(m + " is public and no more", m.getModifiers() == Modifier.PUBLIC);
                found.add(m.getReturnType() + " " + m.getName() + types(m));
                names.add(m.getName());
            }
        }
        is("the methods " + found, found.equals(FACE));
        Constructor<?>[] made = c.getDeclaredConstructors();
        is("one public constructor without arguments", made.length == 1
            && made[0].getModifiers() == Modifier.PUBLIC && made[0].getParameterCount() == 0);
        for (Field f : c.getDeclaredFields()) {
            boolean none = f.getName().equals("NONE");
            is(f + " is private", none || Modifier.isPrivate(f.getModifiers()));
        }
        int inside = 0;
        for (Class<?> inner : c.getDeclaredClasses()) {
            inside++;
            is(inner + " is static and not public", Modifier.isStatic(inner.getModifiers())
                && !Modifier.isPublic(inner.getModifiers()) && !Modifier.isProtected(inner.getModifiers()));
            is(inner + " has some twenty fields at most", fieldsOf(inner) <= 20);
            for (Method m : inner.getDeclaredMethods()) {
                is(m + " bears no name of the face", !names.contains(m.getName()));
                is(m + " takes seven at most", m.getParameterCount() <= 7);
            }
        }
        is("some twelve classes at most", inside + 1 <= 12);
        for (Method m : c.getDeclaredMethods()) {
            is(m + " bears no name of the face", !Modifier.isPrivate(m.getModifiers()) || !names.contains(m.getName()));
        }
        System.out.println(wrong == 0 ? "the face is the document's" : wrong + " faults of the face");
        System.exit(wrong == 0 ? 0 : 1);
    }

    private static String types(Method m) {
        StringBuilder s = new StringBuilder("(");
        for (Class<?> p : m.getParameterTypes()) {
            s.append(s.length() > 1 ? "," : "").append(p);
        }
        return s.append(')').toString();
    }

    private static int fieldsOf(Class<?> c) {
        int n = 0;
        for (Field f : c.getDeclaredFields()) {
            n += Modifier.isStatic(f.getModifiers()) ? 0 : 1;
        }
        return n;
    }

    private static void is(String what, boolean holds) {
        if (!holds) {
            wrong++;
            System.out.println("not so: " + what);
        }
    }
}
