import java.util.Random;

/** Runs of up to 512 calls, the same at every start, each answer compared with the model's. */
public final class RandomRunsTest {
    private static final int RUNS = 240;
    private static final String[] NAMES = {
        "variable", "constant", "apply", "choose", "restrict", "quantify", "product", "compose", "turn",
        "truth", "same", "count", "least", "depends", "nodes", "heap", "order", "swap", "place", "sift",
        "image", "reach", "check", "astray"
    };
    // How often each call comes, by the kind of run: all alike, great diagrams, systems, changes of the order.
    private static final int[][] WEIGHTS = {
        {6, 1, 12, 6, 2, 1, 1, 6, 3, 8, 4, 4, 4, 4, 4, 4, 2, 3, 3, 1, 4, 4, 8, 2},
        {2, 0, 30, 9, 1, 0, 0, 30, 5, 6, 4, 2, 2, 2, 3, 3, 1, 3, 2, 1, 0, 0, 1, 1},
        {3, 0, 9, 4, 2, 2, 1, 2, 3, 4, 3, 3, 3, 3, 1, 1, 1, 1, 1, 1, 9, 9, 30, 1},
        {3, 0, 20, 5, 0, 0, 0, 15, 3, 3, 1, 1, 1, 1, 4, 6, 4, 9, 9, 3, 0, 0, 1, 3},
    };

    // Operations whose result hangs on both functions.
    private static final int[] RICH = {6, 9, 6, 9, 1, 2, 4, 7, 8, 11, 13, 14};

    private final Random random;
    private final Twin twin;
    private final int[] weights;
    private final int[] args = new int[5];

    private RandomRunsTest(int run) {
        twin = new Twin("run " + run);
        random = new Random(20261115L + run);
        weights = WEIGHTS[run % WEIGHTS.length];
    }

    public static void main(String[] arguments) {
        for (int run = 0; run < RUNS; run++) {
            new RandomRunsTest(run).play();
        }
        Expect.end("RandomRunsTest");
    }

    private void play() {
        if (isSystem()) {
            openSystem();
        } else {
            openGreat();
        }
        while (twin.calls() < Twin.CALLS) {
            int kind = pickKind();
            fillArguments(kind);
            if (isSystem() && !rarely()) {
                keepToSystem(kind);
            }
            twin.ask(NAMES[kind], args);
        }
    }

    private boolean isSystem() {
        return weights == WEIGHTS[2];
    }

    /** Fills the registers with functions of many variables. */
    private void openGreat() {
        for (int v = 0; v < 8; v++) {
            twin.ask("variable", v, v);
            twin.ask("variable", 15 - v, random.nextInt(8));
        }
        int mixes = random.nextInt(120);
        for (int i = 0; i < mixes; i++) {
            int r = random.nextInt(16);
            switch (random.nextInt(4)) {
                case 0: twin.ask("apply", r, RICH[random.nextInt(RICH.length)], r, random.nextInt(16)); break;
                case 1: twin.ask("compose", r, random.nextInt(16), random.nextInt(8), random.nextInt(16)); break;
                case 2: twin.ask("turn", r, r); break;
                default: twin.ask("choose", r, random.nextInt(16), random.nextInt(16), random.nextInt(16)); break;
            }
        }
    }

    /**
     * Sets in 0 to 11; in 12 to 15 steps: each bit of the next state as a function of the state, then some
     * states without a step or with several.
     */
    private void openSystem() {
        for (int i = 0; i < 4; i++) {
            twin.ask("variable", i, 2 * i);
        }
        for (int t = 12; t < 16; t++) {
            twin.ask("constant", t, 1);
            for (int i = 0; i < 4; i++) {
                nextBit(4 + i, i);
                twin.ask("variable", 8, 2 * i + 1);
                twin.ask("apply", 8, 9, 8, 4 + i);
                twin.ask("apply", t, 8, t, 8);
            }
            twin.ask("apply", 9, random.nextInt(16), 4, 5);
            twin.ask("apply", 9, random.nextInt(16), 9, 6);
            if (random.nextInt(2) == 0) {
                twin.ask("apply", t, random.nextInt(2) == 0 ? 8 : 14, t, 9);
            }
        }
        for (int r = 4; r < 12; r++) {
            twin.ask("apply", r, RICH[random.nextInt(RICH.length)], random.nextInt(4), 4 + random.nextInt(4));
        }
    }

    private void nextBit(int r, int i) {
        twin.ask("apply", r, RICH[random.nextInt(RICH.length)], random.nextInt(4), random.nextInt(4));
        twin.ask("choose", r, random.nextInt(4), r, random.nextInt(4));
        if (random.nextInt(2) == 0) {
            twin.ask("apply", r, 6, r, i);
        }
    }

    /** Sets stay sets and steps stay steps, but for a call here and there. */
    private void keepToSystem(int kind) {
        switch (NAMES[kind]) {
            case "variable": args[0] = args[0] % 8; args[1] = args[1] & 6; break;
            case "constant": args[0] = 4 + random.nextInt(4); break;
            case "apply": case "choose":
                args[0] = 4 + random.nextInt(8);
                args[2] = random.nextInt(12);
                args[3] = random.nextInt(12);
                args[1] = kind == 2 ? RICH[random.nextInt(RICH.length)] : random.nextInt(12);
                break;
            case "restrict": case "quantify": case "product": case "compose": case "turn":
                args[0] = 11;
                break;
            case "image": case "reach": case "check":
                args[0] = random.nextInt(6) == 0 ? 4 + random.nextInt(7) : 11;
                args[1] = 12 + random.nextInt(4);
                break;
            default: break;
        }
    }

    private int pickKind() {
        int sum = 0;
        for (int weight : weights) {
            sum += weight;
        }
        int left = random.nextInt(sum);
        int kind = 0;
        while (left >= weights[kind]) {
            left -= weights[kind];
            kind++;
        }
        return kind;
    }

    private boolean rarely() {
        return random.nextInt(80) == 0;
    }

    private int upTo(int most) {
        if (rarely()) {
            int[] none = {-1, most + 1, Integer.MIN_VALUE, Integer.MAX_VALUE, -most - 2, most + 2};
            return none[random.nextInt(none.length)];
        }
        return random.nextInt(most + 1);
    }

    private int setRegister() {
        for (int attempt = 0; attempt < 60 && random.nextInt(40) != 0; attempt++) {
            int r = random.nextInt(16);
            if ((twin.model.depends(r) & 0xAA) == 0 && (twin.model.depends(r) != 0 || attempt > 30)) {
                return r;
            }
        }
        return upTo(15);
    }

    private void fillArguments(int kind) {
        for (int i = 0; i < args.length; i++) {
            args[i] = upTo(15);
        }
        switch (NAMES[kind]) {
            case "variable": args[1] = upTo(7); break;
            case "apply": args[1] = random.nextInt(3) == 0 ? upTo(15) : RICH[random.nextInt(RICH.length)]; break;
            case "constant": args[1] = random.nextInt(2); break;
            case "restrict": args[2] = upTo(7); args[3] = random.nextInt(2); break;
            case "quantify": args[2] = mask(); args[3] = random.nextInt(2); break;
            case "product": args[3] = mask(); break;
            case "compose": args[2] = upTo(7); break;
            case "truth": args[1] = upTo(255); break;
            case "order": args[0] = upTo(7); break;
            case "swap": args[0] = upTo(6); break;
            case "place": args[0] = upTo(7); args[1] = upTo(7); break;
            case "sift": args[0] = upTo(7); break;
            case "image": case "reach": args[2] = setRegister(); break;
            case "check": args[2] = upTo(7); args[3] = setRegister(); args[4] = setRegister(); break;
            default: break;
        }
    }

    private int mask() {
        return random.nextInt(3) == 0 ? upTo(255) : upTo(255) & upTo(255);
    }
}
