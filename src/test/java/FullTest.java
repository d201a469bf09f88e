import java.util.Arrays;
import java.util.function.Function;

/**
 * Registers and diagrams as full as calls can make them, up to the last of the 512 calls.
 *
 * <p>At levels 0 to 4 a function has at most 1, 2, 4, 8 and 16 nodes. At levels 5 to 7 there are no more than
 * 240, 12 and 2 functions at all that depend on the variable there and on none above. So 16 registers have at
 * most 16 times 31, and 254, together 750; and one has at most 31, 32, 12 and 2, together 77.
 */
public final class FullTest {
    private static final String MOST_OF_ALL = "750";
    private static final String MOST_OF_ONE = "77";

    // Found by a search that kept a call if it made the heap greater.
    private static final String FILL_ALL = "variable 0 0, variable 1 1, variable 2 2, variable 3 3, "
        + "variable 4 4, variable 5 5, variable 6 6, variable 7 7, choose 9 5 0 2, choose 12 6 1 9, "
        + "choose 14 7 4 12, choose 7 14 3 9, apply 8 9 7 6, choose 13 5 14 8, apply 6 6 13 6, "
        + "compose 5 14 4 13, compose 15 14 4 6, compose 0 6 3 5, apply 11 9 10 0, compose 4 6 4 0, "
        + "compose 10 13 4 0, apply 1 1 5 13, choose 3 11 10 14, compose 2 13 3 0, apply 9 7 3 2, "
        + "apply 12 1 3 10, apply 14 13 1 10, compose 8 5 6 12, apply 7 4 9 2, choose 13 8 10 2, "
        + "apply 14 7 13 13, compose 5 8 6 9, compose 7 7 2 13, choose 13 2 13 5, choose 10 3 2 10, "
        + "compose 6 15 7 8, compose 7 7 0 14, choose 14 9 14 12, choose 8 6 4 8";
    private static final String FILL_ONE = "variable 0 0, variable 1 1, variable 2 2, variable 3 3, "
        + "variable 4 4, variable 5 5, variable 6 6, variable 7 7, choose 8 7 0 4, choose 9 6 5 8, "
        + "choose 10 9 1 3, choose 11 7 9 10, compose 12 9 5 11, apply 13 9 2 12";

    private FullTest() {
    }

    public static void main(String[] arguments) {
        fullRegisters();
        fullDiagram();
        for (Signature call : Signature.ALL) {
            overFullRegisters(call);
            atTheLastCall(call);
        }
        systemsBesideFullRegisters();
        everyOrder();
        emptiedAndFilledAgain();
        Expect.end("FullTest");
    }

    private static void askRows(Twin twin, String rows) {
        for (String row : rows.split(", ")) {
            String[] words = row.split(" ");
            int[] numbers = new int[words.length - 1];
            Arrays.setAll(numbers, i -> Integer.parseInt(words[i + 1]));
            twin.ask(words[0], numbers);
        }
    }

    private static Twin full(String run) {
        Twin twin = new Twin(run);
        askRows(twin, FILL_ALL);
        return twin;
    }

    private static void fullRegisters() {
        Twin twin = full("full registers");
        Expect.due("heap() of full registers", twin.ask("heap"), MOST_OF_ALL);
        twin.askAll();
        for (int a = 0; a < 16; a++) {
            for (int b = 0; b < 16; b++) {
                twin.ask("same", a, b);
            }
        }
        for (int r = 0; r < 16; r++) {
            full("full register " + r).askTable(r);
        }
    }

    private static void fullDiagram() {
        for (int v = 0; v < 8; v++) {
            Twin twin = new Twin("full diagram");
            askRows(twin, FILL_ONE);
            Expect.due("nodes() of a full diagram", twin.ask("nodes", 13), MOST_OF_ONE);
            twin.ask("turn", 14, 13);
            twin.ask("compose", 15, 13, v, 14);
            twin.ask("place", v, 7 - v);
            twin.ask("quantify", 12, 13, 1 << v, v & 1);
            twin.ask("turn", 11, 13);
            twin.askTable(11);
            twin.askAll();
            twin.ask("sift", v);
            twin.askAll();
        }
    }

    private static void overFullRegisters(Signature call) {
        Function<Kind, int[]> choices = kind -> {
            switch (kind) {
                case RESULT: return new int[] {10};
                case REGISTER: return new int[] {10, 14};
                case SET: return new int[] {14};
                case OPERATION: return new int[] {6, 7};
                case FORMULA: return new int[] {7};
                case MASK: return new int[] {0, 0x11, 0x66, 0xFF};
                case ASSIGNMENT: return new int[] {0, 255};
                case FLAG: return new int[] {0, 1};
                default: return new int[] {0, 3, kind.last};
            }
        };
        call.eachRow(choices, row -> {
            Twin twin = full("over full registers: " + call.name() + Arrays.toString(row));
            twin.ask(call.name(), row);
            twin.askAll();
            twin.askTable(10);
        });
    }

    /** "An object is used for at most 512 calls": the last of them is as good as the first. */
    private static void atTheLastCall(Signature call) {
        Twin twin = full("at the last call");
        for (int i = 0; twin.calls() < Twin.CALLS - 1; i++) {
            if (i % 8 == 0) {
                twin.ask("place", i / 8 % 8, i % 5);
            } else {
                twin.ask("apply", i % 16, 6, i % 16, i * 7 % 16);
            }
        }
        int[] row = new int[call.kinds().length];
        Arrays.setAll(row, i -> call.kinds()[i].last / 2);
        twin.ask(call.name(), row);
        Expect.due("calls", twin.calls(), 512);
    }

    /** Sets in 0 and 1, the result in 2, and 13 full ones, of which each has its steps cut down to some two a state. */
    private static void systemsBesideFullRegisters() {
        for (int formula = 0; formula < 8; formula++) {
            Twin twin = full("systems beside full registers");
            for (int v = 1; v < 8; v += 2) {
                twin.ask("restrict", 0, 0, v, 0);
                twin.ask("restrict", 1, 1, v, 1);
            }
            for (int t = 3; t < 16; t++) {
                twin.ask("image", 2, t, 0);
                twin.ask("reach", 2, t, 0);
                twin.ask("product", t, t, 3 + t % 13, 0);
                twin.ask("product", t, t, 3 + (t + 1) % 13, 0);
                twin.ask("image", 2, t, 1);
                twin.ask("reach", 2, t, 1);
                twin.ask("check", 2, t, formula, 0, 1);
                twin.ask("check", 2, t, formula, 1, 0);
            }
            twin.askAll();
        }
    }

    /** Each variable goes to each level, then to its best one, with full registers. */
    private static void everyOrder() {
        Twin twin = full("every order");
        for (int v = 0; v < 8; v++) {
            for (int level = 0; level < 8; level++) {
                twin.ask("place", v, level);
                twin.ask("swap", level % 7);
            }
            twin.ask("sift", v);
        }
        twin.askAll();
        twin.ask("place", 0, 0);
        for (int v = 1; v < 8; v++) {
            twin.ask("place", v, v);
        }
        Expect.due("heap() in the first order again", twin.ask("heap"), MOST_OF_ALL);
        Expect.due("astray() in the first order again", twin.ask("astray"), "0");
    }

    /** What registers have had leaves no trace: the heap is 0 behind it, and as full again. */
    private static void emptiedAndFilledAgain() {
        Twin twin = new Twin("emptied and filled again");
        for (int round = 0; round < 8; round++) {
            askRows(twin, FILL_ALL);
            Expect.due("heap() in round " + round, twin.ask("heap"), MOST_OF_ALL);
            for (int r = 0; r < 16; r++) {
                // The rows begin with register 10 as a new object has it.
                twin.ask("constant", r, r == 10 ? 0 : round & 1);
            }
            Expect.due("heap() of constants in round " + round, twin.ask("heap"), "0");
        }
    }
}
