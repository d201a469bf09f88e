/**
 * A test for each sentence of the document that names a boundary case, with the sentence above it and what
 * is due written out. Wrong arguments are in ArgumentsTest, full registers in FullTest.
 */
public final class BoundaryTest {
    private static final int NOT = 3;
    private static final int XOR = 6;
    private static final int AND = 8;
    private static final int SAME = 9;
    private static final int OR = 14;

    // Registers of a system.
    private static final int STEPS = 12;
    private static final int EMPTY = 13;
    private static final int ALL = 14;

    private BoundaryTest() {
    }

    public static void main(String[] arguments) {
        assignments();
        dependence();
        firstFunctions();
        cuts();
        heapOfEqualFunctions();
        states();
        sets();
        formulasWithoutSteps();
        formulasWithAllSteps();
        formulasOfOneStep();
        operations();
        masks();
        substitutions();
        counts();
        leastOnes();
        endsOfTheOrder();
        placesOfTheOrder();
        emptyHeap();
        siftToEachLevel();
        siftAmongEqualLevels();
        imageCounts();
        reachCounts();
        Expect.end("BoundaryTest");
    }

    private static SymbolicChecker withVariables() {
        SymbolicChecker x = new SymbolicChecker();
        for (int v = 0; v < 8; v++) {
            x.variable(v, v);
        }
        return x;
    }

    /** Register r gets a function that is true for one assignment alone; registers 0 to 7 have the variables. */
    private static void single(SymbolicChecker x, int r, int assignment) {
        x.constant(r, true);
        for (int v = 0; v < 8; v++) {
            // Operation 4: the first and not the second.
            x.apply(r, Expect.bit(assignment, v) ? AND : 4, r, v);
        }
    }

    /** "An ASSIGNMENT is a number 0 .. 255 whose bit v is the value of variable v." */
    private static void assignments() {
        SymbolicChecker x = withVariables();
        for (int v = 0; v < 8; v++) {
            Expect.due("variable " + v + " in 0", x.truth(v, 0), false);
            Expect.due("variable " + v + " in 255", x.truth(v, 255), true);
            Expect.due("variable " + v + " alone", x.truth(v, 1 << v), true);
            Expect.due("all but variable " + v, x.truth(v, 255 ^ 1 << v), false);
        }
        for (int assignment : new int[] {0, 1, 127, 128, 255}) {
            SymbolicChecker y = withVariables();
            single(y, 15, assignment);
            Expect.table("the function of " + assignment + " alone", y, 15, i -> i == assignment);
        }
    }

    /** "It DEPENDS on a variable, if for two assignments that differ in that one alone it is not the same." */
    private static void dependence() {
        SymbolicChecker x = withVariables();
        single(x, 15, 255);
        Expect.due("depends() where one assignment is true", x.depends(15), 255);
        x.apply(15, NOT, 15, 15);
        Expect.due("depends() where one assignment is false", x.depends(15), 255);
        x.apply(15, OR, 15, 7);
        Expect.due("depends() of always true", x.depends(15), 0);
        Expect.due("depends() of always false", x.depends(14), 0);
        for (int v = 0; v < 8; v++) {
            Expect.due("depends() of variable " + v, x.depends(v), 1 << v);
        }
    }

    /** "REGISTERS 0 .. 15 have a function each, at first false for all." */
    private static void firstFunctions() {
        SymbolicChecker x = new SymbolicChecker();
        for (int r = 0; r < 16; r++) {
            Expect.due("least(" + r + ") at first", x.least(r), -1);
            Expect.due("same(0, " + r + ") at first", x.same(0, r), true);
        }
        Expect.table("register 15 at first", x, 15, i -> false);
    }

    /** "A CUT of a function at k (0 .. 8)"; nodes are those "that are neither always true nor always false". */
    private static void cuts() {
        SymbolicChecker x = withVariables();
        single(x, 15, 255);
        Expect.due("nodes() where one assignment is true", x.nodes(15), 8);
        Expect.due("nodes() of the variable at level 0", x.nodes(0), 1);
        Expect.due("nodes() of the variable at level 7", x.nodes(7), 1);
        Expect.due("nodes() of always false", x.nodes(14), 0);
        x.constant(14, true);
        Expect.due("nodes() of always true", x.nodes(14), 0);
        x.apply(13, XOR, 0, 7);
        Expect.due("nodes() with levels between that are passed over", x.nodes(13), 3);
    }

    /** "THE HEAP is how many different nodes all registers have together." */
    private static void heapOfEqualFunctions() {
        SymbolicChecker x = new SymbolicChecker();
        Expect.due("heap() of a new object", x.heap(), 0);
        for (int r = 0; r < 16; r++) {
            x.variable(r, 7);
            Expect.due("heap() of one function in " + (r + 1) + " registers", x.heap(), 1);
        }
        x.apply(0, NOT, 0, 0);
        Expect.due("heap() with its opposite", x.heap(), 2);
        for (int r = 0; r < 16; r++) {
            x.constant(r, true);
        }
        Expect.due("heap() of registers that are always true", x.heap(), 0);
    }

    /** "Bit i (0 .. 3) of a STATE, 0 .. 15, is variable 2 i as it is, variable 2 i + 1 as it is behind a step." */
    private static void states() {
        for (int from = 0; from < 16; from++) {
            for (int to = 0; to < 16; to++) {
                String step = "the step from " + from + " to " + to;
                SymbolicChecker x = withVariables();
                single(x, STEPS, Model.spread(from) | Model.spread(to) << 1);
                x.constant(ALL, true);
                Expect.due(step + ", image", x.image(11, STEPS, ALL), 1);
                Expect.states(step + ", image", x, 11, to);
                Expect.due(step + ", EX", x.check(11, STEPS, 0, ALL, ALL), 1);
                Expect.states(step + ", EX", x, 11, from);
            }
        }
    }

    /** "A SET of states is a function that depends on no variable with an odd number." */
    private static void sets() {
        SymbolicChecker x = withVariables();
        for (int v = 0; v < 8; v += 2) {
            int even = v;
            int odd = v + 1;
            x.image(15, odd, even);
            x.reach(15, odd, even);
            Expect.state("image of variable " + odd, () -> x.image(15, even, odd));
            Expect.state("reach of variable " + odd, () -> x.reach(15, even, odd));
            for (int f = 0; f < 8; f++) {
                int formula = f;
                x.check(15, odd, formula, even, even);
                Expect.state("p variable " + odd, () -> x.check(15, even, formula, odd, even));
                Expect.state("q variable " + odd, () -> x.check(15, even, formula, even, odd));
                Expect.state("both variable " + odd, () -> x.check(15, even, formula, odd, odd));
            }
        }
        x.apply(14, OR, 0, 1);
        Expect.state("image of 0 or 1", () -> x.image(15, 1, 14));
        x.restrict(14, 14, 1, false);
        Expect.due("image of it without variable 1", x.image(15, 1, 14), 8);
    }

    /** Registers 0 to 3 have the bits of the state, 13 no state, 14 all. */
    private static SymbolicChecker system(boolean steps) {
        SymbolicChecker x = new SymbolicChecker();
        for (int i = 0; i < 4; i++) {
            x.variable(i, 2 * i);
        }
        x.constant(STEPS, steps);
        x.constant(ALL, true);
        return x;
    }

    private static void formulas(String what, SymbolicChecker x, int p, int q, int... due) {
        for (int formula = 0; formula < 8; formula++) {
            Expect.due(what + ", formula " + formula, x.check(11, STEPS, formula, p, q), due[formula]);
            Expect.due(what + ", formula " + formula + ", its count", x.count(11), 16L * due[formula]);
        }
    }

    /** FORMULAS where no state has a step: EX has none, so EG has none; AX has all, so AF has all. */
    private static void formulasWithoutSteps() {
        SymbolicChecker x = system(false);
        formulas("no steps, p none, q none", x, EMPTY, EMPTY, 0, 0, 0, 0, 16, 16, 0, 0);
        formulas("no steps, p none, q all", x, EMPTY, ALL, 0, 0, 0, 16, 16, 16, 0, 16);
        formulas("no steps, p all, q none", x, ALL, EMPTY, 0, 16, 0, 0, 16, 16, 16, 16);
        formulas("no steps, p all, q all", x, ALL, ALL, 0, 16, 0, 16, 16, 16, 16, 16);
        // Without a step EU is q, and AU is p or q.
        formulas("no steps, p bit 0, q bit 1", x, 0, 1, 0, 8, 0, 8, 16, 16, 8, 12);
    }

    /** FORMULAS where each state has all steps. */
    private static void formulasWithAllSteps() {
        SymbolicChecker x = system(true);
        formulas("all steps, p none, q none", x, EMPTY, EMPTY, 0, 0, 0, 0, 0, 0, 0, 0);
        formulas("all steps, p none, q all", x, EMPTY, ALL, 0, 0, 0, 16, 0, 0, 0, 16);
        formulas("all steps, p all, q none", x, ALL, EMPTY, 16, 16, 16, 0, 16, 16, 16, 0);
        formulas("all steps, p all, q all", x, ALL, ALL, 16, 16, 16, 16, 16, 16, 16, 16);
        formulas("all steps, p bit 0, q bit 0", x, 0, 0, 16, 16, 8, 8, 0, 8, 0, 8);
        formulas("all steps, p bit 0, q bit 1", x, 0, 1, 16, 16, 8, 12, 0, 8, 0, 8);
    }

    /** FORMULAS where a state has no step but the one to itself, and the others have none. */
    private static void formulasOfOneStep() {
        SymbolicChecker x = withVariables();
        single(x, STEPS, 255);
        x.constant(ALL, true);
        formulas("15 to itself, p all, q none", x, ALL, EMPTY, 1, 16, 1, 0, 16, 16, 16, 15);
        formulas("15 to itself, p none, q none", x, EMPTY, EMPTY, 0, 0, 0, 0, 15, 15, 0, 0);
        formulas("15 to itself, p none, q all", x, EMPTY, ALL, 0, 0, 0, 16, 15, 15, 0, 16);
        // Variable 0 is bit 0, variable 2 bit 1: 15 is in both.
        formulas("15 to itself, p bit 0, q bit 1", x, 0, 2, 1, 8, 1, 8, 16, 16, 8, 12);
    }

    /** "For values x of a and y of b: bit 2 x + y of op, 0 .. 15." */
    private static void operations() {
        SymbolicChecker x = withVariables();
        int[] due = {0, 64, 64, 128, 64, 128, 128, 192, 64, 128, 128, 192, 128, 192, 192, 256};
        for (int op = 0; op < 16; op++) {
            x.apply(15, op, 0, 7);
            Expect.due("count() of operation " + op, x.count(15), due[op]);
            for (int i : new int[] {0, 1, 128, 129}) {
                int bit = 2 * (i & 1) + (i >> 7);
                Expect.due("operation " + op + " at " + i, x.truth(15, i), (op >> bit & 1) == 1);
            }
        }
    }

    /** "The variables whose bits are in the mask (0 .. 255)"; "for some values of these variables". */
    private static void masks() {
        SymbolicChecker x = withVariables();
        single(x, 15, 255);
        for (int v = 0; v < 8; v++) {
            x.quantify(14, 15, 1 << v, false);
            Expect.due("for some value of " + v, x.depends(14), 255 ^ 1 << v);
            x.product(14, 15, 15, 255 ^ 1 << v);
            Expect.due("for some values of all but " + v, x.same(14, v), true);
            x.quantify(14, 15, 1 << v, true);
            Expect.due("for all values of " + v, x.count(14), 0);
            x.quantify(14, v, 255 ^ 1 << v, true);
            Expect.due("for all values of all but " + v, x.same(14, v), true);
        }
        x.quantify(14, 15, 0, true);
        Expect.due("for all values of none", x.same(14, 15), true);
        x.quantify(14, 15, 0, false);
        Expect.due("for some values of none", x.same(14, 15), true);
        x.quantify(14, 15, 255, false);
        Expect.due("for some values of all", x.count(14), 256);
        x.product(14, 15, 7, 0);
        Expect.due("both, for some values of none", x.same(14, 15), true);
        x.product(14, 15, 7, 255);
        Expect.due("both, for some values of all", x.count(14), 256);
        x.product(14, 15, 13, 255);
        Expect.due("both, where one is always false", x.count(14), 0);
    }

    /** "a with what b is in the place of a variable": b may have the variable itself, and may be constant. */
    private static void substitutions() {
        SymbolicChecker x = withVariables();
        x.apply(15, XOR, 0, 7);
        x.compose(14, 15, 7, 7);
        Expect.due("a variable in its own place", x.same(14, 15), true);
        x.compose(14, 15, 7, 15);
        Expect.due("itself in the place of its last variable", x.same(14, 7), true);
        x.compose(14, 15, 0, 13);
        Expect.due("always false in the place of variable 0", x.same(14, 7), true);
        x.constant(13, true);
        x.compose(14, 15, 7, 13);
        x.apply(14, NOT, 14, 14);
        Expect.due("always true in the place of variable 7", x.same(14, 0), true);
        x.compose(14, 7, 7, 13);
        Expect.due("always true in the place of the one variable", x.count(14), 256);
        x.restrict(14, 7, 7, false);
        Expect.due("the one variable as false", x.count(14), 0);
    }

    /** "For how many assignments it is true." */
    private static void counts() {
        SymbolicChecker x = withVariables();
        single(x, 15, 255);
        Expect.due("count() of one assignment", x.count(15), 1);
        x.apply(15, NOT, 15, 15);
        Expect.due("count() of all but one", x.count(15), 255);
        Expect.due("count() of always false", x.count(14), 0);
        x.constant(14, true);
        Expect.due("count() of always true", x.count(14), 256);
    }

    /** "The least assignment for which it is true; NONE." */
    private static void leastOnes() {
        for (int assignment = 0; assignment < 256; assignment++) {
            SymbolicChecker x = withVariables();
            x.place(assignment & 7, assignment >> 5);
            single(x, 15, assignment);
            Expect.due("least() of " + assignment + " alone", x.least(15), assignment);
            x.apply(15, NOT, 15, 15);
            Expect.due("least() of all but " + assignment, x.least(15), assignment == 0 ? 1 : 0);
        }
        SymbolicChecker x = new SymbolicChecker();
        Expect.due("least() of always false", x.least(15), SymbolicChecker.NONE);
        x.constant(15, true);
        Expect.due("least() of always true", x.least(15), 0);
    }

    /** "The variables at a level (0 .. 6) and the next one change places": level 7 has none next to it. */
    private static void endsOfTheOrder() {
        SymbolicChecker x = new SymbolicChecker();
        x.swap(0);
        Expect.order("swap(0)", x, 1, 0, 2, 3, 4, 5, 6, 7);
        x.swap(6);
        Expect.order("swap(6)", x, 1, 0, 2, 3, 4, 5, 7, 6);
        Expect.index("swap(7)", () -> x.swap(7));
        Expect.index("swap(-1)", () -> x.swap(-1));
        Expect.order("a swap that is refused", x, 1, 0, 2, 3, 4, 5, 7, 6);
    }

    /** "A variable comes to a level, the others keep their order." */
    private static void placesOfTheOrder() {
        for (int v = 0; v < 8; v++) {
            for (int level = 0; level < 8; level++) {
                SymbolicChecker x = withVariables();
                int[] due = new int[8];
                int other = 0;
                for (int k = 0; k < 8; k++) {
                    other += other == v ? 1 : 0;
                    due[k] = k == level ? v : other++;
                }
                Expect.due("heap of eight variables", x.place(v, level), 8);
                Expect.order("place(" + v + ", " + level + ")", x, due);
                Expect.due("variable " + v + " where it is placed", x.depends(v), 1 << v);
            }
        }
    }

    /** "The heap then" of registers that are constant is 0. */
    private static void emptyHeap() {
        SymbolicChecker x = new SymbolicChecker();
        x.constant(15, true);
        for (int v = 0; v < 8; v++) {
            Expect.due("place() of an empty heap", x.place(v, 7), 0);
            Expect.due("swap() of an empty heap", x.swap(v % 7), 0);
            Expect.due("sift() of an empty heap", x.sift(v), 0);
            Expect.due("sift() of an empty heap goes to the lowest level", x.order(0), v);
        }
        Expect.due("astray() of an empty heap", x.astray(), 0);
    }

    /** "A variable comes to the level with which the heap is least": each level once, from each level. */
    private static void siftToEachLevel() {
        for (int level = 0; level < 8; level++) {
            SymbolicChecker x = bestAt(level);
            int least = x.place(7, level);
            for (int other = 0; other < 8; other++) {
                int heap = x.place(7, other);
                Expect.due("level " + level + " is better than " + other, heap > least, other != level);
                Expect.due("sift(7) from " + other + " to " + level, x.sift(7), least);
                Expect.due("sift(7) came to " + level, x.order(level), 7);
            }
        }
    }

    /** Variable 7 is better behind as many others as level says, by register 14, and before the rest, by 15. */
    private static SymbolicChecker bestAt(int level) {
        SymbolicChecker x = withVariables();
        x.constant(12, true);
        x.constant(13, true);
        x.constant(14, true);
        for (int v = 0; v < level; v++) {
            x.apply(14, AND, 14, v);
        }
        for (int v = level; v < 7; v++) {
            x.apply(12, XOR, 12, v);
            x.apply(13, AND, 13, v);
        }
        x.apply(11, NOT, 7, 7);
        x.choose(14, 14, 7, level < 7 ? 6 : 11);
        x.choose(15, 7, 13, 12);
        for (int r = 0; r < 12; r++) {
            x.constant(r, false);
        }
        return x;
    }

    /** "Of several the lowest": no other level has a greater heap, or none of those behind the best has. */
    private static void siftAmongEqualLevels() {
        for (int from = 0; from < 8; from++) {
            SymbolicChecker x = new SymbolicChecker();
            x.variable(0, 4);
            x.place(4, from);
            Expect.due("sift(4) of one node", x.sift(4), 1);
            Expect.due("sift(4), at each level alike", x.order(0), 4);
            SymbolicChecker y = withVariables();
            y.apply(8, AND, 0, 1);
            y.choose(8, 8, 7, 6);
            y.constant(0, false);
            y.constant(1, false);
            y.place(7, from);
            // Behind 0 and 1 it has a node of each of them, and two of the six variables in registers.
            Expect.due("sift(7) behind 0 and 1", y.sift(7), 8);
            Expect.order("sift(7) behind 0 and 1", y, 0, 1, 7, 2, 3, 4, 5, 6);
        }
    }

    /** "The states to which there is a step from one of the set s: how many." */
    private static void imageCounts() {
        SymbolicChecker none = system(false);
        Expect.due("image of all without steps", none.image(11, STEPS, ALL), 0);
        Expect.due("image of none without steps", none.image(11, STEPS, EMPTY), 0);
        SymbolicChecker all = system(true);
        Expect.due("image of all by all steps", all.image(11, STEPS, ALL), 16);
        Expect.due("image of none by all steps", all.image(11, STEPS, EMPTY), 0);
        Expect.due("image of half by all steps", all.image(11, STEPS, 3), 16);
    }

    /** Steps from each state to the next one, none from 15: register 0 to 3 bits, 12 steps, 13 none, 14 all. */
    private static SymbolicChecker ladder() {
        SymbolicChecker x = system(true);
        x.constant(10, true);
        for (int i = 0; i < 4; i++) {
            x.apply(4, XOR, i, 10);
            x.variable(5, 2 * i + 1);
            x.apply(4, SAME, 4, 5);
            x.apply(STEPS, AND, STEPS, 4);
            x.apply(10, AND, 10, i);
        }
        x.apply(STEPS, 4, STEPS, 10);
        return x;
    }

    /** "The least number of images behind which nothing new comes (0, if s has the image of itself)." */
    private static void reachCounts() {
        for (int from = 0; from < 16; from++) {
            SymbolicChecker x = ladder();
            x.constant(11, true);
            for (int i = 0; i < 4; i++) {
                x.apply(11, Expect.bit(from, i) ? AND : 4, 11, i);
            }
            Expect.due("reach from " + from, x.reach(9, STEPS, 11), 15 - from);
            Expect.due("what is reached from " + from, x.count(9), 16 * (16 - from));
            Expect.due("reach from what is reached", x.reach(9, STEPS, 9), 0);
        }
        SymbolicChecker x = ladder();
        Expect.due("reach from none", x.reach(9, STEPS, EMPTY), 0);
        Expect.due("what is reached from none", x.count(9), 0);
        Expect.due("reach from all", x.reach(9, STEPS, ALL), 0);
        Expect.due("what is reached from all", x.count(9), 256);
        Expect.due("reach without steps", x.reach(9, EMPTY, 3), 0);
        Expect.due("what is reached without steps", x.same(9, 3), true);
        Expect.due("reach by all steps", x.reach(9, ALL, 3), 1);
        Expect.due("what is reached by all steps", x.count(9), 256);
    }
}
