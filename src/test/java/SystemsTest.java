import java.util.Random;

/** Systems told step by step: ways as long as there are states, and steps at random, the same at every start. */
public final class SystemsTest {
    private static final int RANDOM_SYSTEMS = 80;
    private static final int LEAST_STEPS = 8;
    private static final int MOST_STEPS = 24;

    private static final int XOR = 6;
    private static final int AND = 8;
    private static final int OR = 14;
    // The first and not the second.
    private static final int BUT_NOT = 4;

    // Registers 0 to 7 have the variables.
    private static final int STEPS = 8;
    private static final int MADE = 9;
    private static final int RESULT = 10;
    private static final int P = 11;
    private static final int Q = 12;
    private static final int ALL = 13;
    private static final int EMPTY = 14;
    private static final int MIXED = 15;

    private final String run;
    private final Twin twin;

    private SystemsTest(String run) {
        this.run = run;
        twin = new Twin(run);
        for (int v = 0; v < 8; v++) {
            twin.ask("variable", v, v);
        }
        twin.ask("constant", ALL, 1);
    }

    public static void main(String[] arguments) {
        for (int state = 0; state < 16; state++) {
            new SystemsTest("a line and state " + state).line(state);
            new SystemsTest("a ring and state " + state).ring(state);
        }
        for (int i = 0; i < RANDOM_SYSTEMS; i++) {
            new SystemsTest("system " + i).atRandom(new Random(i));
        }
        Expect.end("SystemsTest");
    }

    private void addStep(int from, int to) {
        twin.ask("constant", MADE, 1);
        for (int v = 0; v < 8; v++) {
            int state = v % 2 == 0 ? from : to;
            twin.ask("apply", MADE, Expect.bit(state, v / 2) ? AND : BUT_NOT, MADE, v);
        }
        twin.ask("apply", STEPS, OR, STEPS, MADE);
    }

    private void onlyState(int r, int state) {
        twin.ask("constant", r, 1);
        for (int i = 0; i < 4; i++) {
            twin.ask("apply", r, Expect.bit(state, i) ? AND : BUT_NOT, r, 2 * i);
        }
    }

    private void images(int due) {
        Expect.due(run + ": images", twin.ask("reach", RESULT, STEPS, P), String.valueOf(due));
    }

    private void formulas(int p, int q, int... due) {
        for (int formula = 0; formula < 8; formula++) {
            String got = twin.ask("check", RESULT, STEPS, formula, p, q);
            Expect.due(run + ", formula " + formula + " of " + p + " and " + q, got, String.valueOf(due[formula]));
            twin.ask("count", RESULT);
            twin.ask("least", RESULT);
        }
    }

    /** Steps from each state to the next one alone, none from 15: a way is at most 15 steps long. */
    private void line(int state) {
        for (int from = 0; from < 15; from++) {
            addStep(from, from + 1);
        }
        onlyState(P, state);
        images(15 - state);
        int before = state == 0 ? 0 : 1;
        int isLast = state == 15 ? 1 : 0;
        formulas(ALL, EMPTY, 15, 16, 0, 0, 16, 16, 16, 16);
        formulas(ALL, P, 15, 16, 0, state + 1, 16, 16, 16, 16);
        // Each way ends, so AF has all; AX has 15 too, which has no step; AG and AU have the state only if it is 15.
        formulas(P, EMPTY, before, state + 1, 0, 0, before + 1, 16, isLast, isLast);
    }

    /** Steps from each state to the next one alone, from 15 to 0: no way ends. */
    private void ring(int state) {
        for (int from = 0; from < 16; from++) {
            addStep(from, from + 1 & 15);
        }
        twin.ask("place", state % 8, 7 - state / 2);
        onlyState(P, state);
        images(15);
        formulas(ALL, EMPTY, 16, 16, 16, 0, 16, 16, 16, 0);
        formulas(ALL, P, 16, 16, 16, 16, 16, 16, 16, 16);
        formulas(P, EMPTY, 1, 16, 0, 0, 1, 16, 0, 0);
        formulas(EMPTY, P, 0, 0, 0, 1, 0, 0, 0, 1);
    }

    /** Steps at random, so that some states have none and others several; all formulas of random sets. */
    private void atRandom(Random random) {
        int steps = LEAST_STEPS + random.nextInt(MOST_STEPS - LEAST_STEPS + 1);
        for (int i = 0; i < steps; i++) {
            addStep(random.nextInt(16), random.nextInt(16));
        }
        for (int round = 0; round < 6; round++) {
            randomSet(random, P);
            randomSet(random, Q);
            onlyState(RESULT, random.nextInt(16));
            twin.ask("image", MADE, STEPS, RESULT);
            twin.ask("reach", RESULT, STEPS, RESULT);
            twin.ask("count", RESULT);
            for (int formula = 0; formula < 8; formula++) {
                twin.ask("check", RESULT, STEPS, formula, P, Q);
                // A state that is wrong in one result is wrong in this mixture of all.
                twin.ask("apply", MIXED, XOR, MIXED, RESULT);
            }
            twin.ask("place", random.nextInt(8), random.nextInt(8));
            twin.ask("astray");
        }
        twin.ask("depends", MIXED);
        for (int state = 0; state < 16; state++) {
            twin.ask("truth", MIXED, Model.spread(state));
        }
    }

    private void randomSet(Random random, int r) {
        twin.ask("apply", r, 1 + random.nextInt(14), 2 * random.nextInt(4), 2 * random.nextInt(4));
        twin.ask("choose", r, 2 * random.nextInt(4), r, 2 * random.nextInt(4));
    }
}
