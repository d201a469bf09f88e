/** Counts and prints what is not as due; every test ends through {@link #end}. */
final class Expect {
    interface Call {
        void run();
    }

    interface Predicate {
        boolean at(int assignment);
    }

    private static final Class<?> INDEX = IndexOutOfBoundsException.class;
    private static final Class<?> ARGUMENT = IllegalArgumentException.class;
    private static final Class<?> STATE = IllegalStateException.class;

    private static int wrong = 0;

    private Expect() {
    }

    static void due(String what, long got, long want) {
        if (got != want) {
            fail(what + " answered " + got + ", due is " + want);
        }
    }

    static void due(String what, String got, String want) {
        if (!got.equals(want)) {
            fail(what + " answered " + got + ", due is " + want);
        }
    }

    static void due(String what, boolean got, boolean want) {
        if (got != want) {
            fail(what + " answered " + got + ", due is " + want);
        }
    }

    static void index(String what, Call call) {
        thrown(what, call, INDEX);
    }

    static void argument(String what, Call call) {
        thrown(what, call, ARGUMENT);
    }

    static void state(String what, Call call) {
        thrown(what, call, STATE);
    }

    /** Compares all 256 values of a register, which takes 256 calls of the object. */
    static void table(String what, SymbolicChecker x, int r, Predicate want) {
        for (int assignment = 0; assignment < 256; assignment++) {
            due(what + " at " + assignment, x.truth(r, assignment), want.at(assignment));
        }
    }

    static void order(String what, SymbolicChecker x, int... want) {
        for (int level = 0; level < 8; level++) {
            due(what + ": order(" + level + ")", x.order(level), want[level]);
        }
    }

    /** Compares the set of a register with the states that it is to have. */
    static void states(String what, SymbolicChecker x, int r, int... want) {
        due(what + ": count", x.count(r), 16L * want.length);
        due(what + ": odd variables", x.depends(r) & 0xAA, 0);
        for (int state : want) {
            due(what + ": state " + state, x.truth(r, Model.spread(state)), true);
        }
    }

    static boolean bit(int assignment, int v) {
        return (assignment >> v & 1) == 1;
    }

    static void fail(String text) {
        wrong++;
        if (wrong <= 50) {
            System.out.println(text);
        }
    }

    static void end(String test) {
        System.out.println(test + ": " + (wrong == 0 ? "all as due" : wrong + " not as due"));
        if (wrong != 0) {
            System.exit(1);
        }
    }

    private static void thrown(String what, Call call, Class<?> want) {
        Class<?> got = null;
        try {
            call.run();
        } catch (RuntimeException e) {
            got = e.getClass();
        }
        if (got != want) {
            fail(what + " threw " + got + ", due is " + want);
        }
    }
}
