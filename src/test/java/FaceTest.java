import java.lang.reflect.Constructor;
import java.lang.reflect.Field;
import java.lang.reflect.Method;
import java.lang.reflect.Modifier;
import java.util.Arrays;
import java.util.List;
import java.util.Set;
import java.util.TreeSet;

/** The face as the document has it; what LANGUAGE.md rules out is for LanguageTest. */
public final class FaceTest {
    private static final Set<String> FACE = new TreeSet<>(List.of(
            "int draw(long,long)", "int node(int,int,int,long)", "int role(int,int)", "int begin()", "int run(int)",
            "int boxes()", "int kind(int)", "long side(int,int,int) throws ArrayIndexOutOfBoundsException",
            "long weight(int,int)", "long enclosed(int,int,int)", "long value(int,long,long,long)",
            "int within(int,int,long,long,long)", "int where(long,long,long)", "long mass(int,int)", "long odds(int)",
            "int share(int) throws ArithmeticException", "int count(int)", "int clear()"));

    private static int wrong = 0;

    public static void main(String[] args) throws Exception {
        members();
        constants();
        System.out.println(wrong == 0 ? "the face is the document's" : wrong + " faults of the face");
        if (wrong != 0) {
            System.exit(1);
        }
    }

    private static void check(boolean fine, String what) {
        if (!fine) {
            wrong++;
            System.out.println(what);
        }
    }

    private static void members() {
        check(Modifier.isFinal(BoxIntegrals.class.getModifiers()), "the class is not final");
        Set<String> found = new TreeSet<>();
        Set<String> names = new TreeSet<>();
        for (Method m : BoxIntegrals.class.getDeclaredMethods()) {
            if (Modifier.isPublic(m.getModifiers())) {
                found.add(told(m));
                check(!Modifier.isStatic(m.getModifiers()), m + " is static");
                check(names.add(m.getName()), m + " bears a name twice");
            }
        }
        check(found.equals(FACE), "public methods: " + found);
        for (Method m : BoxIntegrals.class.getDeclaredMethods()) {
            boolean hidden = Modifier.isPrivate(m.getModifiers());
            check(hidden || Modifier.isPublic(m.getModifiers()), m + " is neither public nor private");
            check(!hidden || !names.contains(m.getName()), m + " bears the name of a public method");
        }
        Constructor<?>[] made = BoxIntegrals.class.getDeclaredConstructors();
        check(made.length == 1 && made[0].getParameterCount() == 0 && Modifier.isPublic(made[0].getModifiers()),
                "constructors: " + Arrays.toString(made));
    }

    private static String told(Method m) {
        StringBuilder s = new StringBuilder(m.getReturnType().getSimpleName()).append(' ').append(m.getName()).append('(');
        for (int i = 0; i < m.getParameterCount(); i++) {
            s.append(i == 0 ? "" : ",").append(m.getParameterTypes()[i].getSimpleName());
        }
        s.append(')');
        for (Class<?> thrown : m.getExceptionTypes()) {
            s.append(" throws ").append(thrown.getSimpleName());
        }
        return s.toString();
    }

    private static void constants() throws Exception {
        Set<String> found = new TreeSet<>();
        for (Field f : BoxIntegrals.class.getDeclaredFields()) {
            if (Modifier.isPublic(f.getModifiers())) {
                check(Modifier.isStatic(f.getModifiers()) && Modifier.isFinal(f.getModifiers()), f + " is no constant");
                found.add(f.getName() + " " + f.getInt(null));
            } else {
                check(Modifier.isPrivate(f.getModifiers()), f + " is neither public nor private");
            }
        }
        Set<String> due = new TreeSet<>(List.of("UNKNOWN -1", "OUTSIDE -2", "STATE -3", "FULL -4", "NONE -5"));
        check(found.equals(due), "constants: " + found);
    }
}
