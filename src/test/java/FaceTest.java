import java.lang.reflect.Constructor;
import java.lang.reflect.Field;
import java.lang.reflect.Method;
import java.lang.reflect.Modifier;
import java.util.Arrays;
import java.util.Set;
import java.util.TreeSet;

/** The class has just the members that the document's face has. */
public final class FaceTest {
    private static final String INDEX = " IndexOutOfBoundsException";
    private static final String ARGUMENT = " IllegalArgumentException";
    private static final String STATE = " IllegalStateException";
    private static final String[] METHODS = {
        "void variable(int,int)" + INDEX,
        "void constant(int,boolean)" + INDEX,
        "void apply(int,int,int,int)" + INDEX + ARGUMENT,
        "void choose(int,int,int,int)" + INDEX,
        "void restrict(int,int,int,boolean)" + INDEX,
        "void quantify(int,int,int,boolean)" + INDEX + ARGUMENT,
        "void product(int,int,int,int)" + INDEX + ARGUMENT,
        "void compose(int,int,int,int)" + INDEX,
        "void turn(int,int)" + INDEX,
        "boolean truth(int,int)" + INDEX + ARGUMENT,
        "boolean same(int,int)" + INDEX,
        "int count(int)" + INDEX,
        "int least(int)" + INDEX,
        "int depends(int)" + INDEX,
        "int nodes(int)" + INDEX,
        "int heap()",
        "int order(int)" + INDEX,
        "int swap(int)" + INDEX,
        "int place(int,int)" + INDEX,
        "int sift(int)" + INDEX,
        "int image(int,int,int)" + INDEX + STATE,
        "int reach(int,int,int)" + INDEX + STATE,
        "int check(int,int,int,int,int)" + INDEX + ARGUMENT + STATE,
        "int astray()",
    };

    private FaceTest() {
    }

    public static void main(String[] arguments) {
        Class<?> face = SymbolicChecker.class;
        Expect.due("the class is public and final",
            Modifier.isPublic(face.getModifiers()) && Modifier.isFinal(face.getModifiers()), true);
        methods(face);
        fields(face);
        Constructor<?>[] constructors = face.getDeclaredConstructors();
        Expect.due("constructors", constructors.length, 1);
        Expect.due("the constructor is public", Modifier.isPublic(constructors[0].getModifiers()), true);
        Expect.due("the constructor's parameters", constructors[0].getParameterCount(), 0);
        Expect.due("NONE", SymbolicChecker.NONE, -1);
        for (Class<?> inside : face.getDeclaredClasses()) {
            Expect.due(inside + " is hidden and static", isHidden(inside.getModifiers())
                && Modifier.isStatic(inside.getModifiers()), true);
        }
        Expect.end("FaceTest");
    }

    private static void methods(Class<?> face) {
        Set<String> due = new TreeSet<>(Arrays.asList(METHODS));
        Set<String> publicNames = new TreeSet<>();
        for (Method method : face.getDeclaredMethods()) {
            if (Modifier.isPublic(method.getModifiers())) {
                publicNames.add(method.getName());
                if (!due.remove(written(method))) {
                    Expect.fail("not in the document: " + written(method));
                }
            }
        }
        for (String missing : due) {
            Expect.fail("missing: " + missing);
        }
        for (Method method : face.getDeclaredMethods()) {
            if (!Modifier.isPublic(method.getModifiers())) {
                Expect.due(method + " is private under a name of its own",
                    Modifier.isPrivate(method.getModifiers()) && !publicNames.contains(method.getName()), true);
            }
        }
    }

    private static void fields(Class<?> face) {
        for (Field field : face.getDeclaredFields()) {
            boolean isNone = field.getName().equals("NONE") && Modifier.isPublic(field.getModifiers());
            Expect.due(field + " is NONE or private", isNone || Modifier.isPrivate(field.getModifiers()), true);
        }
    }

    private static boolean isHidden(int modifiers) {
        return !Modifier.isPublic(modifiers) && !Modifier.isProtected(modifiers);
    }

    private static String written(Method method) {
        StringBuilder text = new StringBuilder();
        text.append(method.getReturnType().getName()).append(' ').append(method.getName()).append('(');
        for (int i = 0; i < method.getParameterCount(); i++) {
            text.append(i == 0 ? "" : ",").append(method.getParameterTypes()[i].getName());
        }
        text.append(')');
        for (Class<?> exception : method.getExceptionTypes()) {
            text.append(' ').append(exception.getSimpleName());
        }
        return text.toString();
    }
}
