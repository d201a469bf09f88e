import java.util.BitSet;
import java.util.HashSet;
import java.util.Set;

/** The document's words over plain tables of 256 values: slow, and without any diagram. */
final class Model {
    final BitSet[] registers = new BitSet[16];
    int[] order = {0, 1, 2, 3, 4, 5, 6, 7};

    Model() {
        for (int r = 0; r < 16; r++) {
            registers[r] = new BitSet(256);
        }
    }

    private static void register(int r) {
        if (r < 0 || r > 15) {
            throw new IndexOutOfBoundsException();
        }
    }

    private static void eight(int number) {
        if (number < 0 || number > 7) {
            throw new IndexOutOfBoundsException();
        }
    }

    private static void range(int argument, int most) {
        if (argument < 0 || argument > most) {
            throw new IllegalArgumentException();
        }
    }

    private void set(int r) {
        if ((depends(r) & 0xAA) != 0) {
            throw new IllegalStateException();
        }
    }

    private static int with(int assignment, int v, boolean on) {
        return on ? assignment | 1 << v : assignment & ~(1 << v);
    }

    void variable(int r, int v) {
        register(r);
        eight(v);
        BitSet f = new BitSet(256);
        for (int i = 0; i < 256; i++) {
            f.set(i, (i >> v & 1) == 1);
        }
        registers[r] = f;
    }

    void constant(int r, boolean on) {
        register(r);
        BitSet f = new BitSet(256);
        f.set(0, 256, on);
        registers[r] = f;
    }

    void apply(int r, int op, int a, int b) {
        register(r);
        register(a);
        register(b);
        range(op, 15);
        BitSet f = new BitSet(256);
        for (int i = 0; i < 256; i++) {
            int x = registers[a].get(i) ? 1 : 0;
            int y = registers[b].get(i) ? 1 : 0;
            f.set(i, (op >> (2 * x + y) & 1) == 1);
        }
        registers[r] = f;
    }

    void choose(int r, int a, int b, int c) {
        register(r);
        register(a);
        register(b);
        register(c);
        BitSet f = new BitSet(256);
        for (int i = 0; i < 256; i++) {
            f.set(i, registers[a].get(i) ? registers[b].get(i) : registers[c].get(i));
        }
        registers[r] = f;
    }

    private static BitSet cut(BitSet a, int v, boolean on) {
        BitSet f = new BitSet(256);
        for (int i = 0; i < 256; i++) {
            f.set(i, a.get(with(i, v, on)));
        }
        return f;
    }

    void restrict(int r, int a, int v, boolean on) {
        register(r);
        register(a);
        eight(v);
        registers[r] = cut(registers[a], v, on);
    }

    private static BitSet quantified(BitSet a, int mask, boolean all) {
        boolean[] some = new boolean[256];
        boolean[] every = new boolean[256];
        java.util.Arrays.fill(every, true);
        for (int i = 0; i < 256; i++) {
            some[i & ~mask] |= a.get(i);
            every[i & ~mask] &= a.get(i);
        }
        BitSet f = new BitSet(256);
        for (int i = 0; i < 256; i++) {
            f.set(i, all ? every[i & ~mask] : some[i & ~mask]);
        }
        return f;
    }

    void quantify(int r, int a, int mask, boolean all) {
        register(r);
        register(a);
        range(mask, 255);
        registers[r] = quantified(registers[a], mask, all);
    }

    void product(int r, int a, int b, int mask) {
        register(r);
        register(a);
        register(b);
        range(mask, 255);
        BitSet both = (BitSet) registers[a].clone();
        both.and(registers[b]);
        registers[r] = quantified(both, mask, false);
    }

    void compose(int r, int a, int v, int b) {
        register(r);
        register(a);
        eight(v);
        register(b);
        BitSet f = new BitSet(256);
        for (int i = 0; i < 256; i++) {
            f.set(i, registers[a].get(with(i, v, registers[b].get(i))));
        }
        registers[r] = f;
    }

    void turn(int r, int a) {
        register(r);
        register(a);
        BitSet f = new BitSet(256);
        for (int i = 0; i < 256; i++) {
            f.set(i, registers[a].get((i & 0x55) << 1 | (i & 0xAA) >> 1));
        }
        registers[r] = f;
    }

    boolean truth(int a, int assignment) {
        register(a);
        range(assignment, 255);
        return registers[a].get(assignment);
    }

    boolean same(int a, int b) {
        register(a);
        register(b);
        return registers[a].equals(registers[b]);
    }

    int count(int a) {
        register(a);
        return registers[a].cardinality();
    }

    int least(int a) {
        register(a);
        return registers[a].nextSetBit(0);
    }

    int depends(int a) {
        register(a);
        int mask = 0;
        for (int v = 0; v < 8; v++) {
            for (int i = 0; i < 256; i++) {
                if (registers[a].get(i) != registers[a].get(i ^ 1 << v)) {
                    mask |= 1 << v;
                }
            }
        }
        return mask;
    }

    /** A function as 256 bits in four words, so that the many cuts of a heap are quick. */
    private record Words(long w0, long w1, long w2, long w3) {
        static Words of(BitSet f) {
            long[] w = java.util.Arrays.copyOf(f.toLongArray(), 4);
            return new Words(w[0], w[1], w[2], w[3]);
        }

        boolean isConstant() {
            return w0 == w1 && w1 == w2 && w2 == w3 && (w0 == 0 || w0 == -1);
        }

        Words cut(int v, boolean on) {
            if (v == 7) {
                return on ? new Words(w2, w3, w2, w3) : new Words(w0, w1, w0, w1);
            }
            if (v == 6) {
                return on ? new Words(w1, w1, w3, w3) : new Words(w0, w0, w2, w2);
            }
            return new Words(cut(w0, v, on), cut(w1, v, on), cut(w2, v, on), cut(w3, v, on));
        }

        private static long cut(long word, int v, boolean on) {
            long[] where = {0xAAAAAAAAAAAAAAAAL, 0xCCCCCCCCCCCCCCCCL, 0xF0F0F0F0F0F0F0F0L,
                0xFF00FF00FF00FF00L, 0xFFFF0000FFFF0000L, 0xFFFFFFFF00000000L};
            long kept = on ? word & where[v] : word & ~where[v];
            return on ? kept | kept >>> (1 << v) : kept | kept << (1 << v);
        }
    }

    private static void cuts(Words f, int level, int[] row, Set<Words> found) {
        if (f.isConstant()) {
            return;
        }
        found.add(f);
        if (level < 8) {
            cuts(f.cut(row[level], false), level + 1, row, found);
            cuts(f.cut(row[level], true), level + 1, row, found);
        }
    }

    int nodes(int a) {
        register(a);
        Set<Words> found = new HashSet<>();
        cuts(Words.of(registers[a]), 0, order, found);
        return found.size();
    }

    private int heapUnder(int[] row) {
        Set<Words> found = new HashSet<>();
        Set<BitSet> done = new HashSet<>();
        for (BitSet f : registers) {
            if (done.add(f)) {
                cuts(Words.of(f), 0, row, found);
            }
        }
        return found.size();
    }

    int heap() {
        return heapUnder(order);
    }

    int order(int level) {
        eight(level);
        return order[level];
    }

    int swap(int level) {
        if (level < 0 || level > 6) {
            throw new IndexOutOfBoundsException();
        }
        int upper = order[level];
        order[level] = order[level + 1];
        order[level + 1] = upper;
        return heap();
    }

    private int[] placed(int v, int level) {
        int[] row = new int[8];
        int from = 0;
        for (int k = 0; k < 8; k++) {
            if (k == level) {
                row[k] = v;
            } else {
                if (order[from] == v) {
                    from++;
                }
                row[k] = order[from];
                from++;
            }
        }
        return row;
    }

    int place(int v, int level) {
        eight(v);
        eight(level);
        order = placed(v, level);
        return heap();
    }

    int sift(int v) {
        eight(v);
        int best = 0;
        int bestHeap = Integer.MAX_VALUE;
        for (int level = 0; level < 8; level++) {
            int size = heapUnder(placed(v, level));
            if (size < bestHeap) {
                bestHeap = size;
                best = level;
            }
        }
        order = placed(v, best);
        return bestHeap;
    }

    /** The assignment whose even variables are the bits of a state. */
    static int spread(int state) {
        return state & 1 | (state & 2) << 1 | (state & 4) << 2 | (state & 8) << 3;
    }

    private static boolean step(BitSet t, int from, int to) {
        return t.get(spread(from) | spread(to) << 1);
    }

    private static BitSet statesOf(BitSet f) {
        BitSet states = new BitSet(16);
        for (int state = 0; state < 16; state++) {
            states.set(state, f.get(spread(state)));
        }
        return states;
    }

    private static BitSet functionOf(BitSet states) {
        BitSet f = new BitSet(256);
        for (int i = 0; i < 256; i++) {
            f.set(i, states.get(i & 1 | i >> 1 & 2 | i >> 2 & 4 | i >> 3 & 8));
        }
        return f;
    }

    private static BitSet imageOf(BitSet t, BitSet states) {
        BitSet to = new BitSet(16);
        for (int from = 0; from < 16; from++) {
            for (int state = 0; state < 16; state++) {
                if (states.get(from) && step(t, from, state)) {
                    to.set(state);
                }
            }
        }
        return to;
    }

    int image(int r, int t, int s) {
        register(r);
        register(t);
        register(s);
        set(s);
        BitSet to = imageOf(registers[t], statesOf(registers[s]));
        registers[r] = functionOf(to);
        return to.cardinality();
    }

    int reach(int r, int t, int s) {
        register(r);
        register(t);
        register(s);
        set(s);
        BitSet z = statesOf(registers[s]);
        int images = 0;
        while (true) {
            BitSet more = (BitSet) z.clone();
            more.or(imageOf(registers[t], z));
            if (more.equals(z)) {
                break;
            }
            z = more;
            images++;
        }
        registers[r] = functionOf(z);
        return images;
    }

    private static BitSet not(BitSet states) {
        BitSet f = (BitSet) states.clone();
        f.flip(0, 16);
        return f;
    }

    private static BitSet and(BitSet a, BitSet b) {
        BitSet f = (BitSet) a.clone();
        f.and(b);
        return f;
    }

    private static BitSet or(BitSet a, BitSet b) {
        BitSet f = (BitSet) a.clone();
        f.or(b);
        return f;
    }

    private static BitSet ex(BitSet t, BitSet p) {
        BitSet f = new BitSet(16);
        for (int from = 0; from < 16; from++) {
            for (int to = 0; to < 16; to++) {
                if (p.get(to) && step(t, from, to)) {
                    f.set(from);
                }
            }
        }
        return f;
    }

    private static BitSet eu(BitSet t, BitSet p, BitSet q) {
        BitSet z = new BitSet(16);
        for (int pass = 0; pass < 20; pass++) {
            z = or(q, and(p, ex(t, z)));
        }
        return z;
    }

    private static BitSet eg(BitSet t, BitSet p) {
        BitSet z = not(new BitSet(16));
        for (int pass = 0; pass < 20; pass++) {
            z = and(p, ex(t, z));
        }
        return z;
    }

    private static BitSet formula(int formula, BitSet t, BitSet p, BitSet q) {
        BitSet all = not(new BitSet(16));
        switch (formula) {
            case 0: return ex(t, p);
            case 1: return eu(t, all, p);
            case 2: return eg(t, p);
            case 3: return eu(t, p, q);
            case 4: return not(ex(t, not(p)));
            case 5: return not(eg(t, not(p)));
            case 6: return not(eu(t, all, not(p)));
            default: return not(or(eg(t, not(q)), eu(t, not(q), and(not(p), not(q)))));
        }
    }

    int check(int r, int t, int formula, int p, int q) {
        register(r);
        register(t);
        register(p);
        register(q);
        range(formula, 7);
        set(p);
        set(q);
        BitSet z = formula(formula, registers[t], statesOf(registers[p]), statesOf(registers[q]));
        registers[r] = functionOf(z);
        return z.cardinality();
    }

    int astray() {
        return 0;
    }
}
