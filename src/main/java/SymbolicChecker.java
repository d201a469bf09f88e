import java.util.Arrays;

/** Checks small systems by whole sets of states, kept as shared reduced diagrams. */
public final class SymbolicChecker {
    public static final int NONE = -1;

    private static final int REGISTERS = 16;
    private static final int VARIABLES = 8;
    private static final int ASSIGNMENTS = 256;
    private static final int OPERATIONS = 16;
    private static final int FORMULAS = 8;
    private static final int STATES = 16;

    // The variables of a state as it is, and as it is behind a step.
    private static final int NOW = 0x55;
    private static final int BEHIND = 0xAA;

    private final Diagrams diagrams;

    public SymbolicChecker() {
        diagrams = new Diagrams();
    }

    public void variable(int r, int v) throws IndexOutOfBoundsException {
        needRegister(r);
        needVariable(v);
        diagrams.keep(r, diagrams.literal(v));
    }

    public void constant(int r, boolean on) throws IndexOutOfBoundsException {
        needRegister(r);
        diagrams.keep(r, on ? Diagrams.TRUE : Diagrams.FALSE);
    }

    public void apply(int r, int op, int a, int b) throws IndexOutOfBoundsException, IllegalArgumentException {
        needRegister(r);
        needRegister(a);
        needRegister(b);
        needBelow(op, OPERATIONS);
        diagrams.keep(r, diagrams.join(op, diagrams.root(a), diagrams.root(b), 0));
    }

    public void choose(int r, int a, int b, int c) throws IndexOutOfBoundsException {
        needRegister(r);
        needRegister(a);
        needRegister(b);
        needRegister(c);
        diagrams.keep(r, diagrams.pick(diagrams.root(a), diagrams.root(b), diagrams.root(c), 0));
    }

    public void restrict(int r, int a, int v, boolean on) throws IndexOutOfBoundsException {
        needRegister(r);
        needRegister(a);
        needVariable(v);
        diagrams.keep(r, diagrams.fix(diagrams.root(a), v, on, 0));
    }

    public void quantify(int r, int a, int mask, boolean all)
            throws IndexOutOfBoundsException, IllegalArgumentException {
        needRegister(r);
        needRegister(a);
        needBelow(mask, ASSIGNMENTS);
        int f = diagrams.root(a);
        if (all) {
            int fails = diagrams.overlap(diagrams.negate(f), Diagrams.TRUE, mask, 0);
            diagrams.keep(r, diagrams.negate(fails));
        } else {
            diagrams.keep(r, diagrams.overlap(f, Diagrams.TRUE, mask, 0));
        }
    }

    public void product(int r, int a, int b, int mask) throws IndexOutOfBoundsException, IllegalArgumentException {
        needRegister(r);
        needRegister(a);
        needRegister(b);
        needBelow(mask, ASSIGNMENTS);
        diagrams.keep(r, diagrams.overlap(diagrams.root(a), diagrams.root(b), mask, 0));
    }

    public void compose(int r, int a, int v, int b) throws IndexOutOfBoundsException {
        needRegister(r);
        needRegister(a);
        needVariable(v);
        needRegister(b);
        int on = diagrams.fix(diagrams.root(a), v, true, 0);
        int off = diagrams.fix(diagrams.root(a), v, false, 0);
        diagrams.keep(r, diagrams.pick(diagrams.root(b), on, off, 0));
    }

    public void turn(int r, int a) throws IndexOutOfBoundsException {
        needRegister(r);
        needRegister(a);
        diagrams.keep(r, diagrams.mirror(diagrams.root(a), 0));
    }

    public boolean truth(int a, int assignment) throws IndexOutOfBoundsException, IllegalArgumentException {
        needRegister(a);
        needBelow(assignment, ASSIGNMENTS);
        return diagrams.value(diagrams.root(a), assignment);
    }

    public boolean same(int a, int b) throws IndexOutOfBoundsException {
        needRegister(a);
        needRegister(b);
        // No function has two nodes, so the same function is the same number.
        return diagrams.root(a) == diagrams.root(b);
    }

    public int count(int a) throws IndexOutOfBoundsException {
        needRegister(a);
        return diagrams.weight(diagrams.root(a), 0);
    }

    public int least(int a) throws IndexOutOfBoundsException {
        needRegister(a);
        int f = diagrams.root(a);
        for (int assignment = 0; assignment < ASSIGNMENTS; assignment++) {
            if (diagrams.value(f, assignment)) {
                return assignment;
            }
        }
        return NONE;
    }

    public int depends(int a) throws IndexOutOfBoundsException {
        needRegister(a);
        return diagrams.support(diagrams.root(a), 0);
    }

    public int nodes(int a) throws IndexOutOfBoundsException {
        needRegister(a);
        return diagrams.size(diagrams.root(a));
    }

    public int heap() {
        return diagrams.live();
    }

    public int order(int level) throws IndexOutOfBoundsException {
        needLevel(level, VARIABLES);
        return diagrams.variableAt(level);
    }

    public int swap(int level) throws IndexOutOfBoundsException {
        needLevel(level, VARIABLES - 1);
        diagrams.exchange(level);
        return diagrams.live();
    }

    public int place(int v, int level) throws IndexOutOfBoundsException {
        needVariable(v);
        needLevel(level, VARIABLES);
        diagrams.move(v, level);
        return diagrams.live();
    }

    public int sift(int v) throws IndexOutOfBoundsException {
        needVariable(v);
        diagrams.move(v, 0);
        int best = 0;
        int bestHeap = diagrams.live();
        for (int level = 1; level < VARIABLES; level++) {
            diagrams.move(v, level);
            if (diagrams.live() < bestHeap) {
                best = level;
                bestHeap = diagrams.live();
            }
        }
        diagrams.move(v, best);
        return diagrams.live();
    }

    public int image(int r, int t, int s) throws IndexOutOfBoundsException, IllegalStateException {
        needRegister(r);
        needRegister(t);
        needRegister(s);
        needSet(s);
        diagrams.keep(r, after(diagrams.root(t), diagrams.root(s)));
        return states(r);
    }

    public int reach(int r, int t, int s) throws IndexOutOfBoundsException, IllegalStateException {
        needRegister(r);
        needRegister(t);
        needRegister(s);
        needSet(s);
        int steps = diagrams.root(t);
        int z = diagrams.root(s);
        int images = 0;
        // Each pass but the last brings a state, so there are no more passes than states.
        for (int pass = 0; pass < STATES; pass++) {
            int next = diagrams.join(Diagrams.OR, z, after(steps, z), 0);
            if (next == z) {
                break;
            }
            z = next;
            images++;
            diagrams.hold(Diagrams.HELD_Z, z);
            diagrams.collect();
        }
        diagrams.keep(r, z);
        return images;
    }

    public int check(int r, int t, int formula, int p, int q)
            throws IndexOutOfBoundsException, IllegalArgumentException, IllegalStateException {
        needRegister(r);
        needRegister(t);
        needRegister(p);
        needRegister(q);
        needBelow(formula, FORMULAS);
        needSet(p);
        needSet(q);
        int steps = diagrams.root(t);
        int inP = diagrams.root(p);
        int inQ = diagrams.root(q);
        int notP = diagrams.negate(inP);
        int z;
        switch (formula) {
            case 0: z = before(steps, inP); break;
            case 1: z = settle(steps, Diagrams.TRUE, inP, inP); break;
            case 2: z = settle(steps, inP, Diagrams.FALSE, inP); break;
            case 3: z = settle(steps, inP, inQ, inQ); break;
            case 4: z = diagrams.negate(before(steps, notP)); break;
            case 5: z = diagrams.negate(settle(steps, notP, Diagrams.FALSE, notP)); break;
            case 6: z = diagrams.negate(settle(steps, Diagrams.TRUE, notP, notP)); break;
            default:
                // AU fails in two ways: q never comes, or p ends before it.
                int notQ = diagrams.negate(inQ);
                int never = settle(steps, notQ, Diagrams.FALSE, notQ);
                diagrams.hold(Diagrams.HELD_APART, never);
                int neither = diagrams.join(Diagrams.NOR, inP, inQ, 0);
                z = diagrams.join(Diagrams.NOR, never, settle(steps, notQ, neither, neither), 0);
                break;
        }
        diagrams.keep(r, z);
        return states(r);
    }

    public int astray() {
        return diagrams.faults();
    }

    /** The states to which a step leads from one of s. */
    private int after(int t, int s) {
        return diagrams.mirror(diagrams.overlap(t, s, NOW, 0), 0);
    }

    /** EX: the states from which a step leads to one of p. */
    private int before(int t, int p) {
        return diagrams.overlap(t, diagrams.mirror(p, 0), BEHIND, 0);
    }

    /** A set Z with Z = q or (p and EX Z): the least one if it starts from q, the greatest from p or q. */
    private int settle(int t, int p, int q, int start) {
        diagrams.hold(Diagrams.HELD_P, p);
        diagrams.hold(Diagrams.HELD_Q, q);
        int z = start;
        // Z only grows, or only shrinks, so each pass but the last moves a state that none before has moved.
        for (int pass = 0; pass <= STATES; pass++) {
            int next = diagrams.join(Diagrams.OR, q, diagrams.join(Diagrams.AND, p, before(t, z), 0), 0);
            if (next == z) {
                break;
            }
            z = next;
            diagrams.hold(Diagrams.HELD_Z, z);
            diagrams.collect();
        }
        return z;
    }

    /** How many states the set in a register has: 16 assignments, by the odd variables, stand for one state. */
    private int states(int r) {
        return diagrams.weight(diagrams.root(r), 0) / (ASSIGNMENTS / STATES);
    }

    private static void needRegister(int r) {
        if (r < 0 || r >= REGISTERS) {
            throw new IndexOutOfBoundsException("no such register");
        }
    }

    private static void needVariable(int v) {
        if (v < 0 || v >= VARIABLES) {
            throw new IndexOutOfBoundsException("no such variable");
        }
    }

    private static void needLevel(int level, int levels) {
        if (level < 0 || level >= levels) {
            throw new IndexOutOfBoundsException("no such level");
        }
    }

    private static void needBelow(int argument, int bound) {
        if (argument < 0 || argument >= bound) {
            throw new IllegalArgumentException("argument out of its range");
        }
    }

    private void needSet(int r) {
        if ((diagrams.support(diagrams.root(r), 0) & BEHIND) != 0) {
            throw new IllegalStateException("not a set of states");
        }
    }

    /**
     * The diagrams of all registers in one store. A node is a number: 0 and 1 are always false and always
     * true, the others have a variable and two ways on. No function has two nodes, so numbers are compared.
     * Nodes never move; between two calls of the face the store has just the nodes of the registers.
     * What calls itself is private, as the language rules ask; the outer class may use it all the same.
     *
     * <p>No call can fill the store: registers have at most 750 nodes together (16 times 1 + 2 + 4 + 8 + 16 at
     * levels 0 to 4, and at levels 5 to 7 all of the 240 + 12 + 2 that there are), and until the next collect
     * a call makes at most some 770 more (the mirror of the greatest diagram, with those of all its parts).
     */
    private static final class Diagrams {
        static final int FALSE = 0;
        static final int TRUE = 1;

        // Operations of join: bit 2 x + y is the value for x and y.
        static final int NOR = 1;
        static final int NOT_FIRST = 3;
        static final int AND = 8;
        static final int OR = 14;

        // Places behind the registers for what must outlive a collect within a call.
        static final int HELD_P = REGISTERS;
        static final int HELD_Q = REGISTERS + 1;
        static final int HELD_Z = REGISTERS + 2;
        static final int HELD_APART = REGISTERS + 3;
        private static final int ROOTS = REGISTERS + 4;

        private static final int CAPACITY = 2048;
        private static final int BUCKETS = 256;
        private static final int FIRST = 2;
        private static final int FREE = -1;
        // The two leaves bear a variable of their own, below all others in every order.
        private static final int LEAF = VARIABLES;
        private static final int ABOVE_ALL = -1;

        private final int[] roots = new int[ROOTS];
        private final int[] atLevel = new int[VARIABLES];
        private final int[] levelOf = new int[VARIABLES + 1];
        private final int[] label = new int[CAPACITY];
        private final int[] low = new int[CAPACITY];
        private final int[] high = new int[CAPACITY];
        private final int[] next = new int[CAPACITY];
        private final int[] heads = new int[BUCKETS];
        private final boolean[] marked = new boolean[CAPACITY];
        private int live = 0;
        private int end = FIRST;
        private int cursor = FIRST;

        Diagrams() {
            for (int v = 0; v < VARIABLES; v++) {
                atLevel[v] = v;
                levelOf[v] = v;
            }
            levelOf[LEAF] = VARIABLES;
            Arrays.fill(label, FREE);
            label[FALSE] = LEAF;
            label[TRUE] = LEAF;
        }

        int root(int r) {
            return roots[r];
        }

        int live() {
            return live;
        }

        int variableAt(int level) {
            return atLevel[level];
        }

        /** The end of a call that gives a register its result. */
        void keep(int r, int n) {
            roots[r] = n;
            for (int held = REGISTERS; held < ROOTS; held++) {
                roots[held] = FALSE;
            }
            collect();
        }

        void hold(int place, int n) {
            roots[place] = n;
        }

        int literal(int v) {
            return node(v, FALSE, TRUE);
        }

        int negate(int a) {
            return join(NOT_FIRST, a, a, 0);
        }

        private int join(int op, int a, int b, int depth) {
            if (a <= TRUE && b <= TRUE) {
                return op >> (2 * a + b) & 1;
            }
            if (depth >= VARIABLES) {
                return FALSE;
            }
            int v = upper(label[a], label[b]);
            int off = join(op, offWay(a, v), offWay(b, v), depth + 1);
            int on = join(op, onWay(a, v), onWay(b, v), depth + 1);
            return node(v, off, on);
        }

        /** b where a is true, c elsewhere. */
        private int pick(int a, int b, int c, int depth) {
            if (a <= TRUE || b == c) {
                return a == FALSE ? c : b;
            }
            if (depth >= VARIABLES) {
                return FALSE;
            }
            int v = upper(label[a], upper(label[b], label[c]));
            int off = pick(offWay(a, v), offWay(b, v), offWay(c, v), depth + 1);
            int on = pick(onWay(a, v), onWay(b, v), onWay(c, v), depth + 1);
            return node(v, off, on);
        }

        private int fix(int a, int v, boolean on, int depth) {
            if (levelOf[label[a]] > levelOf[v]) {
                return a;
            }
            if (label[a] == v) {
                return on ? high[a] : low[a];
            }
            if (depth >= VARIABLES) {
                return FALSE;
            }
            return node(label[a], fix(low[a], v, on, depth + 1), fix(high[a], v, on, depth + 1));
        }

        /** Whether for some values of the variables in the mask both are true. */
        private int overlap(int a, int b, int mask, int depth) {
            if (a == FALSE || b == FALSE) {
                return FALSE;
            }
            if (a == TRUE && b == TRUE) {
                return TRUE;
            }
            if (depth >= VARIABLES) {
                return FALSE;
            }
            int v = upper(label[a], label[b]);
            int off = overlap(offWay(a, v), offWay(b, v), mask, depth + 1);
            int on = overlap(onWay(a, v), onWay(b, v), mask, depth + 1);
            return (mask >> v & 1) == 0 ? node(v, off, on) : join(OR, off, on, 0);
        }

        /** Each variable in the place of its neighbour: 0 and 1, 2 and 3, 4 and 5, 6 and 7. */
        private int mirror(int a, int depth) {
            if (a <= TRUE || depth >= VARIABLES) {
                return a;
            }
            int off = mirror(low[a], depth + 1);
            int on = mirror(high[a], depth + 1);
            return pick(node(label[a] ^ 1, FALSE, TRUE), on, off, 0);
        }

        boolean value(int a, int assignment) {
            int n = a;
            for (int step = 0; step < VARIABLES && n > TRUE; step++) {
                n = (assignment >> label[n] & 1) == 0 ? low[n] : high[n];
            }
            return n == TRUE;
        }

        /** For how many of all assignments it is true. */
        private int weight(int a, int depth) {
            if (a <= TRUE || depth >= VARIABLES) {
                return a == TRUE ? ASSIGNMENTS : 0;
            }
            return (weight(low[a], depth + 1) + weight(high[a], depth + 1)) / 2;
        }

        /** The variables of its nodes, as bits: a reduced diagram has none on which it does not depend. */
        private int support(int a, int depth) {
            if (a <= TRUE || depth >= VARIABLES) {
                return 0;
            }
            return 1 << label[a] | support(low[a], depth + 1) | support(high[a], depth + 1);
        }

        int size(int a) {
            clearMarks();
            return mark(a, 0);
        }

        void move(int v, int level) {
            for (int step = 0; step < VARIABLES && levelOf[v] > level; step++) {
                exchange(levelOf[v] - 1);
            }
            for (int step = 0; step < VARIABLES && levelOf[v] < level; step++) {
                exchange(levelOf[v]);
            }
        }

        void exchange(int level) {
            int x = atLevel[level];
            int y = atLevel[level + 1];
            seat(y, level);
            seat(x, level + 1);
            // What lift makes bears x but has no y below it, so it is not lifted when the loop meets it.
            for (int n = FIRST; n < end; n++) {
                if (label[n] == x && (label[low[n]] == y || label[high[n]] == y)) {
                    lift(n, x, y);
                }
            }
            collect();
        }

        private void seat(int v, int level) {
            atLevel[level] = v;
            levelOf[v] = level;
        }

        /**
         * Node n stays the same function under the same number, but asks y before x. It is left in its old
         * bucket: only nodes of x are looked for before the next collect puts each into its own.
         */
        private void lift(int n, int x, int y) {
            int off = node(x, offWay(low[n], y), offWay(high[n], y));
            int on = node(x, onWay(low[n], y), onWay(high[n], y));
            label[n] = y;
            low[n] = off;
            high[n] = on;
        }

        /** Frees every node that no root has. */
        void collect() {
            clearMarks();
            int count = 0;
            for (int i = 0; i < ROOTS; i++) {
                count += mark(roots[i], 0);
            }
            live = count;
            sweep();
        }

        private void sweep() {
            Arrays.fill(heads, FALSE);
            int used = FIRST;
            for (int n = FIRST; n < end; n++) {
                if (marked[n]) {
                    int bucket = bucket(label[n], low[n], high[n]);
                    next[n] = heads[bucket];
                    heads[bucket] = n;
                    used = n + 1;
                } else {
                    label[n] = FREE;
                }
            }
            end = used;
            cursor = FIRST;
        }

        private void clearMarks() {
            for (int n = 0; n < end; n++) {
                marked[n] = false;
            }
        }

        /** Answers how many nodes were not marked before. */
        private int mark(int n, int depth) {
            if (n <= TRUE || marked[n] || depth >= VARIABLES) {
                return 0;
            }
            marked[n] = true;
            return 1 + mark(low[n], depth + 1) + mark(high[n], depth + 1);
        }

        /** How many nodes are wrong, each counted once; a free place that is pointed to is one. */
        int faults() {
            clearMarks();
            for (int i = 0; i < ROOTS; i++) {
                blameUnder(ABOVE_ALL, roots[i]);
            }
            for (int n = FIRST; n < end; n++) {
                if (label[n] != FREE) {
                    blame(n);
                }
            }
            int count = 0;
            for (int n = FIRST; n < end; n++) {
                count += marked[n] ? 1 : 0;
            }
            return count;
        }

        private void blame(int n) {
            // Of two that are alike their bucket finds one: the other stands twice.
            int bucket = bucket(label[n], low[n], high[n]);
            boolean twice = found(bucket, label[n], low[n], high[n]) != n;
            if (twice || low[n] == high[n]) {
                marked[n] = true;
            }
            blameUnder(levelOf[label[n]], low[n]);
            blameUnder(levelOf[label[n]], high[n]);
        }

        private void blameUnder(int level, int n) {
            int own = label[n] == FREE ? ABOVE_ALL : levelOf[label[n]];
            if (own <= level) {
                marked[n] = true;
            }
        }

        private int upper(int v, int w) {
            return levelOf[v] <= levelOf[w] ? v : w;
        }

        private int offWay(int n, int v) {
            return label[n] == v ? low[n] : n;
        }

        private int onWay(int n, int v) {
            return label[n] == v ? high[n] : n;
        }

        /** The one node of a variable with these two ways. */
        private int node(int v, int off, int on) {
            if (off == on) {
                return off;
            }
            int bucket = bucket(v, off, on);
            int n = found(bucket, v, off, on);
            return n != FALSE ? n : added(bucket, v, off, on);
        }

        private int found(int bucket, int v, int off, int on) {
            int n = heads[bucket];
            for (int step = 0; step < CAPACITY && n != FALSE; step++) {
                if (label[n] == v && low[n] == off && high[n] == on) {
                    return n;
                }
                n = next[n];
            }
            return FALSE;
        }

        private int added(int bucket, int v, int off, int on) {
            while (cursor < CAPACITY && label[cursor] != FREE) {
                cursor++;
            }
            if (cursor >= CAPACITY) {
                return FALSE;
            }
            int n = cursor;
            label[n] = v;
            low[n] = off;
            high[n] = on;
            next[n] = heads[bucket];
            heads[bucket] = n;
            end = n < end ? end : n + 1;
            return n;
        }

        private static int bucket(int v, int off, int on) {
            return (v + 37 * off + 101 * on) & (BUCKETS - 1);
        }
    }
}
