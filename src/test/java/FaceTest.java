import java.lang.reflect.Constructor;
import java.lang.reflect.Field;
import java.lang.reflect.Method;
import java.lang.reflect.Modifier;
import java.util.ArrayList;
import java.util.Collections;
import java.util.List;

/** The public face, and LANGUAGE.md's rule 1. */
public final class FaceTest {
    private static final String[] METHODS = {
        "int feed(int,int,int,int,int)", "int state(int)!I", "int law(int)!I", "int work(int)!I",
        "int book(int)!I", "int fault()", "int undo()", "int told(int)!I", "int town(int,int)!NI",
        "int road(int,int)!NI", "int seats(int)!I",
        "int would(int,int,int,int,int,int,int,int,int,int)!I", "boolean can(int,int,int)!N",
        "int ahead(int,int)!I", "int turn(int,int)!I", "int swing(int)!N", "int given(int,int)!NI",
        "int league(int)!I", "int drift(int)!I", "int look(int)!I", "int commas(int,int,int)!I",
        "long odds(int,int,int)!NI", "int speak(int,int)!I", "int bread(int,int,int)!NI",
        "int closest(int)!I", "int parts()", "int safest(int)!I", "int bridges()", "int till(int)!I",
        "int most(int,int)!N", "int sides(int)!I", "int margin()", "int lightest(int)!I",
        "int term(int,int,int,int)!I", "int span(int,int,int,int,int)!I", "int image()",
        "int restore()", "int status(int)", "int count(int)"};

    public static void main(String[] args) {
        List<String> want = new ArrayList<>(List.of(METHODS));
        List<String> got = new ArrayList<>();
        List<String> names = new ArrayList<>();
        for (Method m : CommaState.class.getDeclaredMethods()) {
            if (!Modifier.isPrivate(m.getModifiers())) {
                got.add(told(m));
                names.add(m.getName());
                Check.due(m.getName() + " is public", Modifier.isPublic(m.getModifiers()) ? 1 : 0, 1);
                Check.due(m.getName() + " is static", Modifier.isStatic(m.getModifiers()) ? 1 : 0, 0);
            }
        }
        Collections.sort(want);
        Collections.sort(got);
        if (!want.equals(got)) {
            System.out.println("face: " + got);
        }
        Check.due("methods of the face as told", want.equals(got) ? 1 : 0, 1);
        Check.due("class is public and final",
            CommaState.class.getModifiers() & (Modifier.PUBLIC | Modifier.FINAL), Modifier.PUBLIC | Modifier.FINAL);
        Constructor<?>[] made = CommaState.class.getDeclaredConstructors();
        Check.due("constructors", made.length, 1);
        Check.due("constructor is public", Modifier.isPublic(made[0].getModifiers()) ? 1 : 0, 1);
        fields();
        inside(CommaState.class, names);
        Check.due("NONE", CommaState.NONE, -1);
        Check.end();
    }

    private static String told(Method m) {
        StringBuilder text = new StringBuilder(m.getReturnType().getName() + " " + m.getName() + "(");
        for (int i = 0; i < m.getParameterCount(); i++) {
            text.append(i == 0 ? "" : ",").append(m.getParameterTypes()[i].getName());
        }
        text.append(")").append(m.getExceptionTypes().length > 0 ? "!" : "");
        for (Class<?> e : m.getExceptionTypes()) {
            text.append(e.getSimpleName().charAt(0));
        }
        return text.toString();
    }

    private static void fields() {
        int open = 0;
        for (Field f : CommaState.class.getDeclaredFields()) {
            int mods = f.getModifiers();
            open += Modifier.isPrivate(mods) ? 0 : 1;
            Check.yes(f.getName() + " is no static state", noState(f));
        }
        Check.due("fields that are not private", open, 1);
    }

    /** Rule 5: what is static is a constant of int, long, boolean, char or String. */
    private static boolean noState(Field f) {
        Class<?> type = f.getType();
        boolean constant = type == int.class || type == long.class || type == boolean.class
            || type == char.class || type == String.class;
        return !Modifier.isStatic(f.getModifiers()) || Modifier.isFinal(f.getModifiers()) && constant;
    }

    private static void inside(Class<?> outer, List<String> names) {
        int classes = 1;
        for (Class<?> c : outer.getDeclaredClasses()) {
            classes++;
            Check.due(c.getName() + " is static", Modifier.isStatic(c.getModifiers()) ? 1 : 0, 1);
            Check.due(c.getName() + " is public", Modifier.isPublic(c.getModifiers()) ? 1 : 0, 0);
            int own = 0;
            for (Field f : c.getDeclaredFields()) {
                own += Modifier.isStatic(f.getModifiers()) ? 0 : 1;
                Check.yes(c.getName() + "." + f.getName() + " is no static state", noState(f));
            }
            Check.due(c.getName() + " has at most 20 fields", own <= 20 ? 1 : 0, 1);
            for (Method m : c.getDeclaredMethods()) {
                Check.due(c.getName() + "." + m.getName() + " bears a name of the face", names.contains(m.getName()) ? 1 : 0, 0);
                Check.due(c.getName() + "." + m.getName() + " has at most 7 parameters", m.getParameterCount() <= 7 ? 1 : 0, 1);
            }
        }
        Check.due("at most 12 classes", classes <= 12 ? 1 : 0, 1);
    }
}
