/** Each promise by itself: ordinary inputs, the edges that the document names, and wrong inputs. */
public final class PromiseTest {
    private static final int AND = 8;
    private static final int OR = 14;
    private static final int XOR = 6;
    private static final int SAME = 9;
    private static final int NOT = 3;
    private static final int[] NO_REGISTER = {-1, 16, Integer.MIN_VALUE, Integer.MAX_VALUE};
    private static final int[] NO_VARIABLE = {-1, 8, Integer.MIN_VALUE, Integer.MAX_VALUE};

    private PromiseTest() {
    }

    public static void main(String[] arguments) {
        newObject();
        variable();
        constant();
        apply();
        choose();
        restrict();
        quantify();
        product();
        compose();
        turn();
        truth();
        same();
        count();
        least();
        depends();
        nodes();
        heap();
        order();
        swap();
        place();
        sift();
        image();
        reach();
        check();
        deadEnds();
        astray();
        throwingChangesNothing();
        Expect.end("PromiseTest");
    }

    private static boolean bit(int assignment, int v) {
        return Expect.bit(assignment, v);
    }

    /** Registers 0 to 7 have their variables; 8 has (0 and 1) or (2 and 3), 9 their parity with 7. */
    private static SymbolicChecker filled() {
        SymbolicChecker x = new SymbolicChecker();
        for (int v = 0; v < 8; v++) {
            x.variable(v, v);
        }
        x.apply(8, AND, 0, 1);
        x.apply(9, AND, 2, 3);
        x.apply(8, OR, 8, 9);
        x.apply(9, XOR, 8, 7);
        return x;
    }

    private static boolean eight(int i) {
        return bit(i, 0) && bit(i, 1) || bit(i, 2) && bit(i, 3);
    }

    private static boolean nine(int i) {
        return eight(i) != bit(i, 7);
    }

    private static void newObject() {
        SymbolicChecker x = new SymbolicChecker();
        for (int r = 0; r < 16; r++) {
            Expect.due("a new object's count(" + r + ")", x.count(r), 0);
        }
        for (int level = 0; level < 8; level++) {
            Expect.due("a new object's order(" + level + ")", x.order(level), level);
        }
        Expect.due("a new object's heap()", x.heap(), 0);
        Expect.due("a new object's astray()", x.astray(), 0);
        SymbolicChecker other = new SymbolicChecker();
        other.variable(0, 0);
        other.swap(0);
        Expect.due("an object's count(0) behind another's call", x.count(0), 0);
        Expect.due("an object's order(0) behind another's call", x.order(0), 0);
    }

    private static void variable() {
        for (int v = 0; v < 8; v++) {
            int known = v;
            SymbolicChecker x = new SymbolicChecker();
            x.variable(15, v);
            Expect.table("variable(15, " + v + ")", x, 15, i -> bit(i, known));
        }
        SymbolicChecker x = filled();
        for (int none : NO_REGISTER) {
            Expect.index("variable(" + none + ", 0)", () -> x.variable(none, 0));
        }
        for (int none : NO_VARIABLE) {
            Expect.index("variable(0, " + none + ")", () -> x.variable(0, none));
        }
    }

    private static void constant() {
        SymbolicChecker x = filled();
        x.constant(8, true);
        x.constant(9, false);
        Expect.due("count of always true", x.count(8), 256);
        Expect.due("count of always false", x.count(9), 0);
        x.constant(8, false);
        Expect.due("same(8, 9) of two that are always false", x.same(8, 9), true);
        for (int none : NO_REGISTER) {
            Expect.index("constant(" + none + ", true)", () -> x.constant(none, true));
        }
    }

    private static void apply() {
        for (int op = 0; op < 16; op++) {
            int known = op;
            SymbolicChecker x = filled();
            x.apply(10, op, 8, 7);
            Expect.table("apply(10, " + op + ", 8, 7)", x, 10,
                i -> (known >> (2 * (eight(i) ? 1 : 0) + (bit(i, 7) ? 1 : 0)) & 1) == 1);
        }
        SymbolicChecker x = filled();
        x.apply(8, XOR, 8, 7);
        Expect.due("apply into one of the others", x.same(8, 9), true);
        x.apply(8, XOR, 8, 8);
        Expect.due("apply of one function twice", x.count(8), 0);
        for (int none : NO_REGISTER) {
            Expect.index("apply(" + none + ", 8, 0, 0)", () -> x.apply(none, 8, 0, 0));
            Expect.index("apply(0, 8, " + none + ", 0)", () -> x.apply(0, 8, none, 0));
            Expect.index("apply(0, 16, 0, " + none + ")", () -> x.apply(0, 16, 0, none));
        }
        Expect.argument("apply(0, 16, 0, 0)", () -> x.apply(0, 16, 0, 0));
        Expect.argument("apply(0, -1, 0, 0)", () -> x.apply(0, -1, 0, 0));
    }

    private static void choose() {
        SymbolicChecker x = filled();
        x.choose(10, 8, 9, 5);
        Expect.table("choose(10, 8, 9, 5)", x, 10, i -> eight(i) ? nine(i) : bit(i, 5));
        SymbolicChecker y = filled();
        y.choose(8, 8, 8, 6);
        Expect.table("choose(8, 8, 8, 6)", y, 8, i -> eight(i) || bit(i, 6));
        for (int none : NO_REGISTER) {
            Expect.index("choose(" + none + ", 0, 0, 0)", () -> y.choose(none, 0, 0, 0));
            Expect.index("choose(0, " + none + ", 0, 0)", () -> y.choose(0, none, 0, 0));
            Expect.index("choose(0, 0, " + none + ", 0)", () -> y.choose(0, 0, none, 0));
            Expect.index("choose(0, 0, 0, " + none + ")", () -> y.choose(0, 0, 0, none));
        }
    }

    private static void restrict() {
        SymbolicChecker x = filled();
        x.restrict(10, 9, 2, true);
        Expect.table("restrict(10, 9, 2, true)", x, 10, i -> nine(i | 4));
        SymbolicChecker y = filled();
        y.restrict(9, 9, 7, false);
        Expect.due("restrict(9, 9, 7, false)", y.same(9, 8), true);
        y.restrict(10, 8, 6, true);
        Expect.due("restrict by a variable on which it does not depend", y.same(10, 8), true);
        y.restrict(10, 0, 0, true);
        Expect.due("restrict of a variable by itself", y.count(10), 256);
        for (int none : NO_REGISTER) {
            Expect.index("restrict(" + none + ", 0, 0, true)", () -> y.restrict(none, 0, 0, true));
            Expect.index("restrict(0, " + none + ", 0, true)", () -> y.restrict(0, none, 0, true));
        }
        for (int none : NO_VARIABLE) {
            Expect.index("restrict(0, 0, " + none + ", true)", () -> y.restrict(0, 0, none, true));
        }
    }

    private static void quantify() {
        SymbolicChecker x = filled();
        x.quantify(10, 8, 2, false);
        Expect.table("quantify(10, 8, 2, false)", x, 10, i -> bit(i, 0) || bit(i, 2) && bit(i, 3));
        SymbolicChecker y = filled();
        y.quantify(10, 8, 2, true);
        Expect.table("quantify(10, 8, 2, true)", y, 10, i -> bit(i, 2) && bit(i, 3));
        SymbolicChecker z = filled();
        z.quantify(10, 9, 0, true);
        Expect.due("quantify by no variable", z.same(10, 9), true);
        z.quantify(10, 9, 255, false);
        Expect.due("quantify, for some of all", z.count(10), 256);
        z.quantify(10, 9, 255, true);
        Expect.due("quantify, for all of all", z.count(10), 0);
        z.constant(11, true);
        z.quantify(11, 11, 255, true);
        Expect.due("quantify of always true", z.count(11), 256);
        for (int none : NO_REGISTER) {
            Expect.index("quantify(" + none + ", 0, 256, true)", () -> z.quantify(none, 0, 256, true));
            Expect.index("quantify(0, " + none + ", -1, true)", () -> z.quantify(0, none, -1, true));
        }
        Expect.argument("quantify(0, 0, 256, true)", () -> z.quantify(0, 0, 256, true));
        Expect.argument("quantify(0, 0, -1, false)", () -> z.quantify(0, 0, -1, false));
    }

    private static void product() {
        SymbolicChecker x = filled();
        x.product(10, 8, 9, 0x8A);
        // With 7 false nine is eight, so both are true wherever eight can be.
        Expect.table("product(10, 8, 9, 0x8A)", x, 10, i -> bit(i, 0) || bit(i, 2));
        SymbolicChecker y = filled();
        y.product(9, 8, 9, 0);
        Expect.table("product(9, 8, 9, 0)", y, 9, i -> eight(i) && nine(i));
        SymbolicChecker z = filled();
        z.apply(10, NOT, 8, 8);
        z.product(10, 10, 8, 255);
        Expect.due("product of a function and its opposite", z.count(10), 0);
        for (int none : NO_REGISTER) {
            Expect.index("product(" + none + ", 0, 0, 0)", () -> z.product(none, 0, 0, 0));
            Expect.index("product(0, " + none + ", 0, 0)", () -> z.product(0, none, 0, 0));
            Expect.index("product(0, 0, " + none + ", 256)", () -> z.product(0, 0, none, 256));
        }
        Expect.argument("product(0, 0, 0, 256)", () -> z.product(0, 0, 0, 256));
        Expect.argument("product(0, 0, 0, -1)", () -> z.product(0, 0, 0, -1));
    }

    private static void compose() {
        SymbolicChecker x = filled();
        x.compose(10, 8, 1, 9);
        Expect.table("compose(10, 8, 1, 9)", x, 10, i -> bit(i, 0) && nine(i) || bit(i, 2) && bit(i, 3));
        SymbolicChecker y = filled();
        y.apply(10, NOT, 3, 3);
        y.compose(8, 8, 3, 10);
        Expect.table("compose by the variable's opposite", y, 8, i -> eight(i ^ 8));
        SymbolicChecker z = filled();
        z.compose(10, 8, 5, 9);
        Expect.due("compose by a variable on which it does not depend", z.same(10, 8), true);
        for (int none : NO_REGISTER) {
            Expect.index("compose(" + none + ", 0, 0, 0)", () -> z.compose(none, 0, 0, 0));
            Expect.index("compose(0, " + none + ", 0, 0)", () -> z.compose(0, none, 0, 0));
            Expect.index("compose(0, 0, 0, " + none + ")", () -> z.compose(0, 0, 0, none));
        }
        for (int none : NO_VARIABLE) {
            Expect.index("compose(0, 0, " + none + ", 0)", () -> z.compose(0, 0, none, 0));
        }
    }

    private static void turn() {
        SymbolicChecker x = filled();
        x.choose(10, 0, 3, 6);
        x.turn(10, 10);
        Expect.table("turn(10, 10)", x, 10, i -> bit(i, 1) ? bit(i, 2) : bit(i, 7));
        SymbolicChecker y = filled();
        for (int v = 0; v < 8; v++) {
            y.turn(10, v);
            Expect.due("turn(10, " + v + ")", y.same(10, v ^ 1), true);
        }
        y.turn(10, 9);
        y.turn(10, 10);
        Expect.due("turn of turn", y.same(10, 9), true);
        for (int none : NO_REGISTER) {
            Expect.index("turn(" + none + ", 0)", () -> y.turn(none, 0));
            Expect.index("turn(0, " + none + ")", () -> y.turn(0, none));
        }
    }

    private static void truth() {
        SymbolicChecker x = filled();
        x.place(3, 0);
        x.place(7, 2);
        Expect.table("truth(9, .) under another order", x, 9, PromiseTest::nine);
        for (int none : NO_REGISTER) {
            Expect.index("truth(" + none + ", 256)", () -> x.truth(none, 256));
        }
        Expect.argument("truth(0, 256)", () -> x.truth(0, 256));
        Expect.argument("truth(0, -1)", () -> x.truth(0, -1));
    }

    private static void same() {
        SymbolicChecker x = filled();
        Expect.due("same(8, 8)", x.same(8, 8), true);
        Expect.due("same(8, 9)", x.same(8, 9), false);
        Expect.due("same(0, 1) of two that are true as often", x.same(0, 1), false);
        x.apply(10, AND, 2, 3);
        x.swap(1);
        x.swap(4);
        x.apply(11, AND, 1, 0);
        x.apply(10, OR, 11, 10);
        Expect.due("same of one function made twice, under two orders", x.same(8, 10), true);
        for (int none : NO_REGISTER) {
            Expect.index("same(" + none + ", 0)", () -> x.same(none, 0));
            Expect.index("same(0, " + none + ")", () -> x.same(0, none));
        }
    }

    private static void count() {
        SymbolicChecker x = filled();
        Expect.due("count(5)", x.count(5), 128);
        Expect.due("count(8)", x.count(8), 112);
        Expect.due("count(9)", x.count(9), 128);
        Expect.due("count(15)", x.count(15), 0);
        x.constant(15, true);
        for (int v = 0; v < 8; v++) {
            x.apply(15, AND, 15, v);
        }
        Expect.due("count of one assignment", x.count(15), 1);
        for (int none : NO_REGISTER) {
            Expect.index("count(" + none + ")", () -> x.count(none));
        }
    }

    private static void least() {
        SymbolicChecker x = filled();
        Expect.due("least(7)", x.least(7), 128);
        Expect.due("least(8)", x.least(8), 3);
        Expect.due("least of always false", x.least(15), SymbolicChecker.NONE);
        x.constant(15, true);
        Expect.due("least of always true", x.least(15), 0);
        for (int v = 0; v < 8; v++) {
            x.apply(15, AND, 15, v);
        }
        Expect.due("least of the last assignment alone", x.least(15), 255);
        x.apply(10, XOR, 0, 7);
        x.place(7, 0);
        Expect.due("least hangs on no order", x.least(10), 1);
        for (int none : NO_REGISTER) {
            Expect.index("least(" + none + ")", () -> x.least(none));
        }
    }

    private static void depends() {
        SymbolicChecker x = filled();
        Expect.due("depends(8)", x.depends(8), 0x0F);
        Expect.due("depends(9)", x.depends(9), 0x8F);
        Expect.due("depends of a constant", x.depends(15), 0);
        x.apply(10, XOR, 9, 7);
        Expect.due("depends where a variable falls out", x.depends(10), 0x0F);
        for (int none : NO_REGISTER) {
            Expect.index("depends(" + none + ")", () -> x.depends(none));
        }
    }

    private static void nodes() {
        SymbolicChecker x = filled();
        Expect.due("nodes(5)", x.nodes(5), 1);
        Expect.due("nodes(8)", x.nodes(8), 4);
        Expect.due("nodes(9)", x.nodes(9), 6);
        Expect.due("nodes(15)", x.nodes(15), 0);
        x.constant(15, true);
        Expect.due("nodes of always true", x.nodes(15), 0);
        x.swap(1);
        Expect.due("nodes(8) with 2 before 1", x.nodes(8), 6);
        for (int v = 0; v < 8; v++) {
            x.apply(14, XOR, 14, v);
        }
        Expect.due("nodes of the parity of all", x.nodes(14), 15);
        for (int none : NO_REGISTER) {
            Expect.index("nodes(" + none + ")", () -> x.nodes(none));
        }
    }

    private static void heap() {
        SymbolicChecker x = new SymbolicChecker();
        x.variable(0, 3);
        x.variable(1, 3);
        Expect.due("heap() of one function in two registers", x.heap(), 1);
        x.variable(2, 2);
        x.apply(3, AND, 2, 0);
        Expect.due("heap() with a shared node", x.heap(), 3);
        x.constant(0, false);
        Expect.due("heap() with the shared node in one register less", x.heap(), 3);
        x.constant(1, true);
        x.constant(2, true);
        Expect.due("heap() with the node under another alone", x.heap(), 2);
        x.constant(3, false);
        Expect.due("heap() of constants", x.heap(), 0);
    }

    private static void order() {
        SymbolicChecker x = filled();
        x.place(0, 7);
        x.swap(2);
        Expect.order("place(0, 7), swap(2)", x, 1, 2, 4, 3, 5, 6, 7, 0);
        for (int none : NO_VARIABLE) {
            Expect.index("order(" + none + ")", () -> x.order(none));
        }
    }

    private static void swap() {
        SymbolicChecker x = filled();
        x.constant(9, false);
        // 8 variables, and 3 of register 8's 4 nodes.
        Expect.due("heap() of the variables and register 8", x.heap(), 11);
        Expect.due("swap(1)", x.swap(1), 12);
        Expect.order("swap(1)", x, 0, 2, 1, 3, 4, 5, 6, 7);
        Expect.due("swap(1) back", x.swap(1), 11);
        Expect.due("swap(6)", x.swap(6), 11);
        Expect.order("swap(6)", x, 0, 1, 2, 3, 4, 5, 7, 6);
        Expect.table("no function is changed by a swap", x, 8, PromiseTest::eight);
        for (int none : new int[] {-1, 7, 8, Integer.MIN_VALUE, Integer.MAX_VALUE}) {
            Expect.index("swap(" + none + ")", () -> x.swap(none));
        }
    }

    private static void place() {
        SymbolicChecker x = filled();
        x.constant(9, false);
        Expect.due("place(2, 1)", x.place(2, 1), 12);
        Expect.order("place(2, 1)", x, 0, 2, 1, 3, 4, 5, 6, 7);
        Expect.due("place(1, 1)", x.place(1, 1), 11);
        Expect.order("place(1, 1)", x, 0, 1, 2, 3, 4, 5, 6, 7);
        x.place(6, 0);
        Expect.order("place(6, 0)", x, 6, 0, 1, 2, 3, 4, 5, 7);
        x.place(0, 7);
        Expect.order("place(0, 7)", x, 6, 1, 2, 3, 4, 5, 7, 0);
        int heap = x.heap();
        Expect.due("place where it is", x.place(0, 7), heap);
        Expect.order("place where it is", x, 6, 1, 2, 3, 4, 5, 7, 0);
        Expect.table("no function is changed by a place", x, 8, PromiseTest::eight);
        for (int none : NO_VARIABLE) {
            Expect.index("place(" + none + ", 0)", () -> x.place(none, 0));
            Expect.index("place(0, " + none + ")", () -> x.place(0, none));
        }
    }

    private static void sift() {
        SymbolicChecker x = filled();
        x.constant(9, false);
        x.place(1, 7);
        Expect.due("sift(1)", x.sift(1), 11);
        // Beside 0, before or behind it: 0 and 1 alike, so the lower of the two levels.
        Expect.order("sift(1)", x, 1, 0, 2, 3, 4, 5, 6, 7);
        Expect.due("sift(6) where every level is as good", x.sift(6), 11);
        Expect.order("sift(6)", x, 6, 1, 0, 2, 3, 4, 5, 7);
        SymbolicChecker none = new SymbolicChecker();
        Expect.due("sift(5) of an empty heap", none.sift(5), 0);
        Expect.order("sift(5) of an empty heap", none, 5, 0, 1, 2, 3, 4, 6, 7);
        for (int v : NO_VARIABLE) {
            Expect.index("sift(" + v + ")", () -> x.sift(v));
        }
        Expect.table("no function is changed by a sift", x, 8, PromiseTest::eight);
    }

    /**
     * A counter: register 0 to 3 the bits of the state, 12 the steps from each state to the next one, from
     * 15 to 0; 13 has state 0 alone, 14 state 15 alone, 15 all states.
     */
    private static SymbolicChecker counter() {
        SymbolicChecker x = new SymbolicChecker();
        x.constant(12, true);
        x.constant(14, true);
        for (int i = 0; i < 4; i++) {
            x.variable(i, 2 * i);
            x.apply(4, XOR, i, 14);
            x.variable(5, 2 * i + 1);
            x.apply(4, SAME, 4, 5);
            x.apply(12, AND, 12, 4);
            x.apply(14, AND, 14, i);
        }
        x.constant(15, true);
        x.apply(13, 1, 0, 1);
        x.apply(4, 1, 2, 3);
        x.apply(13, AND, 13, 4);
        return x;
    }

    private static void image() {
        SymbolicChecker x = counter();
        Expect.due("count of the counter's steps", x.count(12), 16);
        Expect.due("image(11, 12, 13)", x.image(11, 12, 13), 1);
        Expect.states("image of state 0", x, 11, 1);
        Expect.due("image(11, 12, 11)", x.image(11, 12, 11), 1);
        Expect.states("image of state 1, into itself", x, 11, 2);
        Expect.due("image(11, 12, 14)", x.image(11, 12, 14), 1);
        Expect.states("image of state 15", x, 11, 0);
        Expect.due("image(11, 12, 15)", x.image(11, 12, 15), 16);
        Expect.due("image(11, 12, 10) of no state", x.image(11, 12, 10), 0);
        Expect.due("image(11, 15, 13) by every step", x.image(11, 15, 13), 16);
        Expect.due("image(11, 13, 13) by steps from 0 alone", x.image(11, 13, 13), 16);
        Expect.due("image(11, 13, 14) by steps from 0 alone", x.image(11, 13, 14), 0);
        Expect.state("image(11, 12, 12) of no set", () -> x.image(11, 12, 12));
        for (int none : NO_REGISTER) {
            Expect.index("image(" + none + ", 12, 12)", () -> x.image(none, 12, 12));
            Expect.index("image(11, " + none + ", 12)", () -> x.image(11, none, 12));
            Expect.index("image(11, 12, " + none + ")", () -> x.image(11, 12, none));
        }
    }

    private static void reach() {
        SymbolicChecker x = counter();
        Expect.due("reach(11, 12, 13)", x.reach(11, 12, 13), 15);
        Expect.due("reach from state 0 reaches all", x.count(11), 256);
        Expect.due("reach(11, 12, 3) from the upper half", x.reach(11, 12, 3), 8);
        Expect.due("reach(11, 12, 0) from the odd ones", x.reach(11, 12, 0), 1);
        Expect.due("reach(11, 12, 15) from all", x.reach(11, 12, 15), 0);
        Expect.due("reach(11, 12, 10) from none", x.reach(11, 12, 10), 0);
        Expect.due("reach from none reaches none", x.count(11), 0);
        x.apply(11, NOT, 14, 14);
        x.apply(12, AND, 12, 11);
        x.image(11, 12, 13);
        Expect.due("reach from state 1, 15 without a step", x.reach(11, 12, 11), 14);
        Expect.due("reach from state 1 reaches all but 0", x.count(11), 240);
        Expect.due("reach from state 15 without a step", x.reach(12, 12, 14), 0);
        Expect.due("reach into the steps themselves", x.same(12, 14), true);
        x.variable(12, 1);
        Expect.state("reach(11, 12, 12) of no set", () -> x.reach(11, 12, 12));
        for (int none : NO_REGISTER) {
            Expect.index("reach(" + none + ", 12, 12)", () -> x.reach(none, 12, 12));
            Expect.index("reach(11, " + none + ", 12)", () -> x.reach(11, none, 12));
            Expect.index("reach(11, 12, " + none + ")", () -> x.reach(11, 12, none));
        }
    }

    private static void check() {
        SymbolicChecker x = counter();
        Expect.due("EX of state 0", x.check(11, 12, 0, 13, 13), 1);
        Expect.states("EX of state 0", x, 11, 15);
        Expect.due("EF of state 0", x.check(11, 12, 1, 13, 13), 16);
        Expect.due("EG of the upper half", x.check(11, 12, 2, 3, 3), 0);
        Expect.due("EG of all", x.check(11, 12, 2, 15, 10), 16);
        Expect.due("EU of the upper half and state 15", x.check(11, 12, 3, 3, 14), 8);
        Expect.due("EU is the upper half", x.same(11, 3), true);
        Expect.due("EU of none and state 15", x.check(11, 12, 3, 10, 14), 1);
        Expect.due("AX of state 0", x.check(11, 12, 4, 13, 13), 1);
        Expect.due("AF of state 0", x.check(11, 12, 5, 13, 13), 16);
        Expect.due("AG of all", x.check(11, 12, 6, 15, 15), 16);
        Expect.due("AG of the upper half", x.check(11, 12, 6, 3, 3), 0);
        Expect.due("AU of the upper half and state 0", x.check(11, 12, 7, 3, 13), 9);
        Expect.due("AU has state 0", x.truth(11, 0), true);
        Expect.due("AU of all and none", x.check(11, 12, 7, 15, 10), 0);
        Expect.argument("check(11, 12, 8, 12, 12)", () -> x.check(11, 12, 8, 12, 12));
        Expect.argument("check(11, 12, -1, 13, 13)", () -> x.check(11, 12, -1, 13, 13));
        for (int formula = 0; formula < 8; formula++) {
            int known = formula;
            Expect.state("formula " + formula + ", p no set", () -> x.check(11, 12, known, 12, 13));
            Expect.state("formula " + formula + ", q no set", () -> x.check(11, 12, known, 13, 12));
        }
        for (int none : NO_REGISTER) {
            Expect.index("check(" + none + ", 12, 8, 12, 12)", () -> x.check(none, 12, 8, 12, 12));
            Expect.index("check(11, " + none + ", 8, 12, 12)", () -> x.check(11, none, 8, 12, 12));
            Expect.index("check(11, 12, 8, " + none + ", 12)", () -> x.check(11, 12, 8, none, 12));
            Expect.index("check(11, 12, 0, 12, " + none + ")", () -> x.check(11, 12, 0, 12, none));
        }
    }

    /** The counter without the step from 15, and with one from 3 to itself. */
    private static void deadEnds() {
        SymbolicChecker x = counter();
        x.apply(10, NOT, 14, 14);
        x.apply(12, AND, 12, 10);
        x.apply(5, AND, 0, 1);
        x.apply(6, 1, 2, 3);
        x.apply(5, AND, 5, 6);
        Expect.states("state 3", x, 5, 3);
        x.turn(6, 5);
        x.apply(6, AND, 5, 6);
        x.apply(12, OR, 12, 6);
        Expect.due("EG of all", x.check(11, 12, 2, 15, 15), 4);
        Expect.states("EG of all", x, 11, 0, 1, 2, 3);
        Expect.due("EX of all", x.check(11, 12, 0, 15, 15), 15);
        Expect.due("AX of none: the states without a step", x.check(11, 12, 4, 9, 9), 1);
        Expect.states("AX of none", x, 11, 15);
        Expect.due("AF of none: the states from which every way ends", x.check(11, 12, 5, 9, 9), 12);
        Expect.due("AF of state 15", x.check(11, 12, 5, 14, 14), 12);
        Expect.due("AU of all and state 15", x.check(11, 12, 7, 15, 14), 12);
        Expect.due("EU of all and state 15", x.check(11, 12, 3, 15, 14), 16);
        Expect.due("EF of state 0", x.check(11, 12, 1, 13, 9), 1);
        Expect.due("AG of the upper half", x.check(11, 12, 6, 3, 9), 8);
        x.sift(1);
        x.place(6, 0);
        Expect.due("AU under another order", x.check(12, 12, 7, 15, 14), 12);
        // States 4 to 15: those with bit 2 or bit 3.
        Expect.due("AU into the steps themselves", x.depends(12), 0x50);
    }

    private static void astray() {
        SymbolicChecker x = filled();
        Expect.due("astray() behind operations", x.astray(), 0);
        for (int v = 0; v < 8; v++) {
            x.place(v, 7 - v);
            Expect.due("astray() behind place", x.astray(), 0);
            x.sift(7 - v);
            Expect.due("astray() behind sift", x.astray(), 0);
            x.choose(9, v, 8, 9);
            x.turn(8, 9);
            Expect.due("astray() behind choose and turn", x.astray(), 0);
        }
    }

    private static void throwingChangesNothing() {
        SymbolicChecker x = counter();
        int heap = x.heap();
        Expect.index("apply", () -> x.apply(12, 8, 0, 16));
        Expect.argument("apply", () -> x.apply(12, 16, 0, 0));
        Expect.argument("quantify", () -> x.quantify(12, 0, 256, true));
        Expect.argument("product", () -> x.product(12, 0, 1, 256));
        Expect.index("compose", () -> x.compose(12, 0, 8, 1));
        Expect.index("restrict", () -> x.restrict(12, 0, 8, true));
        Expect.index("place", () -> x.place(0, 8));
        Expect.index("swap", () -> x.swap(7));
        Expect.state("image", () -> x.image(12, 13, 12));
        Expect.state("reach", () -> x.reach(12, 13, 12));
        Expect.state("check", () -> x.check(12, 13, 7, 13, 12));
        Expect.argument("check", () -> x.check(12, 13, 8, 13, 13));
        Expect.due("heap() behind calls that throw", x.heap(), heap);
        Expect.order("behind calls that throw", x, 0, 1, 2, 3, 4, 5, 6, 7);
        Expect.table("the steps behind calls that throw", x, 12, PromiseTest::isCounterStep);
    }

    private static boolean isCounterStep(int assignment) {
        for (int state = 0; state < 16; state++) {
            if ((assignment & 0x55) == Model.spread(state)) {
                return (assignment & 0xAA) == Model.spread(state + 1 & 15) << 1;
            }
        }
        return false;
    }
}
