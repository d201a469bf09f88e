import java.lang.reflect.InvocationTargetException;
import java.lang.reflect.Method;
import java.lang.reflect.Modifier;
import java.util.Arrays;
import java.util.HashMap;
import java.util.Map;

/** A SymbolicChecker and a Model that get the same calls: each answer of the one is compared with the other's. */
final class Twin {
    static final int CALLS = 512;
    // The registers of a furnished twin that have sets, as bits.
    static final int FURNISHED_SETS = 0x833F;

    private static final Map<String, Method> MODEL_METHODS = methodsOf(Model.class);
    private static final Map<String, Method> CHECKER_METHODS = methodsOf(SymbolicChecker.class);

    final Model model = new Model();
    private final SymbolicChecker checker = new SymbolicChecker();
    private final String run;
    private int calls = 0;

    Twin(String run) {
        this.run = run;
    }

    /** Functions of all kinds under another order: sets in 0 to 5 and 15, steps in 6, 8 always true, 9 false. */
    static Twin furnished(String run) {
        Twin twin = new Twin(run);
        for (int i = 0; i < 4; i++) {
            twin.ask("variable", i, 2 * i);
        }
        twin.ask("apply", 4, 6, 0, 1);
        twin.ask("choose", 5, 2, 4, 3);
        twin.ask("place", 6, 1);
        twin.furnishSteps();
        twin.ask("constant", 8, 1);
        twin.ask("compose", 7, 6, 2, 10);
        twin.ask("choose", 7, 7, 5, 10);
        twin.ask("choose", 11, 10, 7, 4);
        twin.ask("turn", 12, 11);
        twin.ask("restrict", 13, 12, 4, 1);
        twin.ask("apply", 14, 3, 7, 7);
        twin.ask("apply", 15, 1, 0, 3);
        twin.ask("swap", 4);
        twin.ask("place", 1, 5);
        return twin;
    }

    /** Each state has one step: its bits move down by one, and a new one comes from two of them. */
    private void furnishSteps() {
        ask("constant", 6, 1);
        for (int i = 0; i < 4; i++) {
            ask("variable", 10, 2 * i + 1);
            ask("apply", 10, 9, 10, i + 1);
            ask("apply", 6, 8, 6, 10);
        }
    }

    int calls() {
        return calls;
    }

    /**
     * Answers what is due: a number, true, false, null of a call without an answer, or the name of the
     * exception that it throws. A boolean argument is given as 0 or 1; arguments too many are left aside.
     */
    String ask(String name, int... arguments) {
        calls++;
        Method method = CHECKER_METHODS.get(name);
        String want = answer(model, MODEL_METHODS.get(name), arguments);
        String got = answer(checker, method, arguments);
        if (!want.equals(got)) {
            String taken = Arrays.toString(Arrays.copyOf(arguments, method.getParameterCount()));
            Expect.fail(run + ", call " + calls + ": " + name + taken + " answered " + got + ", due is " + want);
        }
        if (calls > CALLS) {
            Expect.fail(run + ": the test makes too many calls");
        }
        return want;
    }

    /** 74 calls: all answers about the registers, but for tables and pairs, and the order. */
    void askAll() {
        for (int r = 0; r < 16; r++) {
            ask("count", r);
            ask("least", r);
            ask("depends", r);
            ask("nodes", r);
        }
        for (int level = 0; level < 8; level++) {
            ask("order", level);
        }
        ask("heap");
        ask("astray");
    }

    /** 256 calls. */
    void askTable(int r) {
        for (int assignment = 0; assignment < 256; assignment++) {
            ask("truth", r, assignment);
        }
    }

    private static String answer(Object asked, Method method, int[] arguments) {
        Object[] given = new Object[method.getParameterCount()];
        for (int i = 0; i < given.length; i++) {
            boolean isNumber = method.getParameterTypes()[i] == int.class;
            given[i] = isNumber ? (Object) arguments[i] : (Object) (arguments[i] == 1);
        }
        try {
            return String.valueOf(method.invoke(asked, given));
        } catch (InvocationTargetException e) {
            return e.getCause().getClass().getSimpleName();
        } catch (IllegalAccessException e) {
            return e.toString();
        }
    }

    private static Map<String, Method> methodsOf(Class<?> type) {
        Map<String, Method> methods = new HashMap<>();
        for (Method method : type.getDeclaredMethods()) {
            if (!Modifier.isPrivate(method.getModifiers())) {
                methods.put(method.getName(), method);
            }
        }
        return methods;
    }
}
