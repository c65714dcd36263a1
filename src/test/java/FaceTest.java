import java.lang.reflect.Constructor;
import java.lang.reflect.Field;
import java.lang.reflect.Method;
import java.lang.reflect.Modifier;
import java.util.Arrays;
import java.util.Set;
import java.util.TreeSet;

/** The class has the face of the document, and shows nothing else. */
public final class FaceTest {
    private static final String[] METHODS = {
        "int row(int,int)", "int lay(int,int,int)", "int at(int,int)", "int tear(int)",
        "int copy(int,int,int,int,int)", "int mean(int)", "int text(int,int)", "int put(int,int,int)",
        "int fault(int)", "int house(int)", "int sitter(int,int)", "int mark(int,int)", "int lines(int)",
        "int call(int)", "int cut()", "int change(int,int)", "int undo(int)", "int keep(int)", "int on(int)",
        "int can()", "int play(int)", "int best(int)", "int least()", "int ways(int)", "int seats()",
        "int beside()", "int apart()", "int frights(int,int)", "int kinds(int,int)", "int whom(int)",
        "int duel(int)", "int odds(int)", "int mid()", "int lots(int)", "int asked()", "long upper()",
        "long lower()", "int count(int)", "int applause()", "int finding()", "int findings(int)", "long digest()",
    };
    private static final String[] CONSTANTS = {"BAD=-1", "FULL=-2", "FINDING=-3", "STATE=-4", "SPENT=-6", "NONE=-9"};

    public static void main(String[] args) throws Exception {
        Due due = new Due("FaceTest");
        Class<?> face = CalledStalls.class;
        due.holds("public and final", face.getModifiers() == (Modifier.PUBLIC | Modifier.FINAL));
        methods(due, face);
        fields(due, face);
        constructors(due, face);
        nested(due, face);
        due.end();
    }

    private static void methods(Due due, Class<?> face) {
        Set<String> shown = new TreeSet<>();
        Set<String> shownNames = new TreeSet<>();
        for (Method m : face.getDeclaredMethods()) {
            if (!Modifier.isPrivate(m.getModifiers())) {
                String parameters = Arrays.toString(m.getParameterTypes()).replace(" ", "");
                shown.add(m.getReturnType() + " " + m.getName()
                        + "(" + parameters.substring(1, parameters.length() - 1) + ")");
                shownNames.add(m.getName());
                due.holds(m.getName() + " is public, of an object",
                        (m.getModifiers() & (Modifier.PUBLIC | Modifier.STATIC)) == Modifier.PUBLIC);
            }
        }
        due.holds("methods " + shown, shown.equals(new TreeSet<>(Arrays.asList(METHODS))));
        for (Method m : face.getDeclaredMethods()) {
            if (Modifier.isPrivate(m.getModifiers())) {
                due.holds("private " + m.getName() + " bears a name of its own", !shownNames.contains(m.getName()));
            }
        }
    }

    private static void fields(Due due, Class<?> face) throws Exception {
        Set<String> shown = new TreeSet<>();
        for (Field f : face.getDeclaredFields()) {
            if (!Modifier.isPrivate(f.getModifiers())) {
                due.is(f.getName() + "'s modifiers", f.getModifiers(),
                        Modifier.PUBLIC | Modifier.STATIC | Modifier.FINAL);
                shown.add(f.getName() + "=" + f.getInt(null));
            }
        }
        due.holds("constants " + shown, shown.equals(new TreeSet<>(Arrays.asList(CONSTANTS))));
    }

    private static void constructors(Due due, Class<?> face) {
        Constructor<?>[] all = face.getDeclaredConstructors();
        due.is("constructors", all.length, 1);
        due.is("their parameters", all[0].getParameterCount(), 0);
        due.holds("public", Modifier.isPublic(all[0].getModifiers()));
    }

    private static void nested(Due due, Class<?> face) {
        for (Class<?> inside : face.getDeclaredClasses()) {
            int modifiers = inside.getModifiers();
            due.holds(inside.getName() + " is static", Modifier.isStatic(modifiers));
            due.holds(inside.getName() + " isn't shown",
                    !Modifier.isPublic(modifiers) && !Modifier.isProtected(modifiers));
        }
        due.holds("some twelve classes", face.getDeclaredClasses().length <= 12);
    }
}
