import java.lang.reflect.Constructor;
import java.lang.reflect.Field;
import java.lang.reflect.Method;
import java.lang.reflect.Modifier;
import java.util.Arrays;
import java.util.TreeSet;

/** The public face: the constant, the constructor and the methods that the document tells, and no others. */
public final class FaceTest {
    private static final String STATE = "java.lang.IllegalStateException";
    private static final String ARGUMENT = "java.lang.IllegalArgumentException";
    private static final String INDEX = "java.lang.IndexOutOfBoundsException";
    private static final String NO_ELEMENT = "java.util.NoSuchElementException";
    private static final String UNSUPPORTED = "java.lang.UnsupportedOperationException";

    private static final String[] METHODS = {
        "int put(int) " + ARGUMENT + " " + UNSUPPORTED,
        "void end(int) " + ARGUMENT,
        "int load() ",
        "int about(int) " + STATE + " " + ARGUMENT,
        "int code(int,int,int) " + STATE + " " + INDEX,
        "int mark(int,int) " + STATE + " " + INDEX,
        "int change(int,int) " + STATE + " " + INDEX,
        "int gone(int,int) " + STATE + " " + INDEX,
        "int listing(int,int,int) " + STATE + " " + INDEX,
        "int why(int) " + STATE + " " + INDEX,
        "int whyName(int,int) " + STATE + " " + INDEX + " " + NO_ELEMENT,
        "void trace(int) " + STATE + " " + INDEX,
        "int step(int) " + STATE + " " + ARGUMENT,
        "int traced(int) " + STATE + " " + ARGUMENT,
        "int value(int) " + STATE + " " + INDEX,
        "int local(int) " + STATE + " " + INDEX,
        "int global(int) " + STATE + " " + INDEX,
        "int cell(int,int) " + STATE + " " + INDEX,
        "boolean touches(int,int) " + STATE + " " + INDEX,
        "int disk(int) " + INDEX,
        "int run(int,int) " + STATE + " " + ARGUMENT,
        "int slot(int,int) " + STATE + " " + INDEX + " " + ARGUMENT,
        "int verdict(int) " + STATE + " " + INDEX,
        "int record(int,int) " + STATE + " " + INDEX + " " + NO_ELEMENT + " " + ARGUMENT,
        "boolean touched(int,int,int) " + STATE + " " + INDEX + " " + NO_ELEMENT + " " + ARGUMENT,
    };

    public static void main(String[] args) {
        Class<SuiteKeeper> face = SuiteKeeper.class;
        Due.is("public", Modifier.isPublic(face.getModifiers()), true);
        Due.is("final", Modifier.isFinal(face.getModifiers()), true);
        TreeSet<String> found = new TreeSet<>();
        for (Method method : face.getDeclaredMethods()) {
            if (!Modifier.isPrivate(method.getModifiers()) && !method.isSynthetic()) {
                Due.is(method + " is public", Modifier.isPublic(method.getModifiers()), true);
                found.add(signature(method));
            }
        }
        TreeSet<String> due = new TreeSet<>(Arrays.asList(METHODS));
        Due.is("methods", String.join("\n", found), String.join("\n", due));
        fields(face);
        Constructor<?>[] constructors = face.getDeclaredConstructors();
        Due.is("one constructor", constructors.length, 1);
        Due.is("public, without parameters", constructors[0].toString(), "public SuiteKeeper()");
        Due.done("FaceTest");
    }

    private static String signature(Method method) {
        StringBuilder all = new StringBuilder(method.getReturnType() + " " + method.getName() + "(");
        for (Class<?> parameter : method.getParameterTypes()) {
            all.append(all.charAt(all.length() - 1) == '(' ? "" : ",").append(parameter);
        }
        all.append(") ");
        for (Class<?> thrown : method.getExceptionTypes()) {
            all.append(all.charAt(all.length() - 2) == ')' ? "" : " ").append(thrown.getName());
        }
        return all.toString();
    }

    /** "The constants: NONE = -1". */
    private static void fields(Class<SuiteKeeper> face) {
        for (Field field : face.getDeclaredFields()) {
            if (!Modifier.isPrivate(field.getModifiers()) && !field.isSynthetic()) {
                Due.is("a constant", field.toString(), "public static final int SuiteKeeper.NONE");
            }
        }
        Due.is("NONE", SuiteKeeper.NONE, -1);
    }
}
