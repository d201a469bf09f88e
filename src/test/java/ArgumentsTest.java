import java.util.Arrays;
import java.util.function.Function;

/**
 * Every call of the face with rows of arguments in a furnished twin: at the ends of the ranges, several of
 * them wrong at once, the result's register among the others, and functions that are constant.
 */
public final class ArgumentsTest {
    private static final int[] OPERATIONS = upTo(15);
    private static final int[] FORMULAS = upTo(7);
    private static final int[] FLAGS = upTo(1);
    // Registers of a furnished twin.
    private static final int OTHER_SET = 4;
    private static final int A_SET = 5;
    private static final int STEPS = 6;
    private static final int ORDINARY = 7;
    private static final int ALWAYS = 8;
    private static final int NEVER = 9;
    private static final int NO_SET = 10;
    private static final int RESULT = 12;

    private ArgumentsTest() {
    }

    public static void main(String[] arguments) {
        furnishedSets();
        for (Signature call : Signature.ALL) {
            for (int place = 0; place < call.kinds().length; place++) {
                endsOfTheRange(call, place);
            }
            severalWrong(call);
            if (call.hasResult()) {
                resultIsOneOfTheOthers(call);
            }
            constantFunctions(call);
        }
        Expect.end("ArgumentsTest");
    }

    private static int[] upTo(int last) {
        int[] row = new int[last + 1];
        Arrays.setAll(row, i -> i);
        return row;
    }

    private static void furnishedSets() {
        Twin twin = Twin.furnished("furnished");
        for (int r = 0; r < 16; r++) {
            int odd = Integer.parseInt(twin.ask("depends", r)) & 0xAA;
            Expect.due("register " + r + " has a set", odd == 0, (Twin.FURNISHED_SETS >> r & 1) == 1);
        }
    }

    /** The call, then what all registers have, one table, and the same behind further calls, which hang on it. */
    private static void look(String what, Signature call, int[] row) {
        String run = what + ": " + call.name() + Arrays.toString(row);
        Twin twin = Twin.furnished(run);
        String answer = twin.ask(call.name(), row);
        Expect.due(run, answer.endsWith("Exception") ? answer : "none", call.refusal(row, Twin.FURNISHED_SETS));
        twin.askAll();
        twin.askTable(call.hasResult() && Kind.RESULT.has(row[0]) ? row[0] : RESULT);
        goOn(twin);
        twin.askAll();
    }

    private static void goOn(Twin twin) {
        twin.ask("sift", 2);
        twin.ask("place", 7, 0);
        twin.ask("swap", 3);
        twin.ask("check", 14, STEPS, 7, A_SET, 15);
        twin.ask("reach", 13, STEPS, 15);
        twin.ask("image", 2, STEPS, A_SET);
        twin.ask("turn", 11, RESULT);
        twin.ask("compose", 10, ORDINARY, 3, 11);
        twin.ask("quantify", 9, ORDINARY, 0x0C, 0);
        twin.ask("product", 8, ORDINARY, STEPS, 0x50);
        twin.ask("choose", 5, 1, STEPS, ORDINARY);
        twin.ask("apply", 4, 6, ORDINARY, 0);
    }

    /** Arguments that go through, no two registers alike. */
    private static int[] ordinaryRow(Signature call) {
        int[] row = new int[call.kinds().length];
        for (int i = 0; i < row.length; i++) {
            switch (call.kinds()[i]) {
                case RESULT: row[i] = RESULT; break;
                case REGISTER: row[i] = new int[] {ORDINARY, STEPS, 11, 13}[i]; break;
                case SET: row[i] = i; break;
                case FLAG: row[i] = 1; break;
                default: row[i] = call.kinds()[i].last / 3; break;
            }
        }
        return row;
    }

    private static void endsOfTheRange(Signature call, int place) {
        if (call.kinds()[place] == Kind.FLAG) {
            return;
        }
        int last = call.kinds()[place].last;
        // Some that are outside have the low bits of numbers that are inside.
        int[] values = {0, last, -1, last + 1, Integer.MIN_VALUE, Integer.MAX_VALUE, 2 * last + 1, 65536, -65536};
        for (int value : values) {
            int[] row = ordinaryRow(call);
            row[place] = value;
            look("ends of the range", call, row);
        }
    }

    private static void severalWrong(Signature call) {
        for (int variant = 0; variant < 4; variant++) {
            int known = variant;
            call.eachRow(kind -> rightOrWrong(kind, known), row -> {
                if (!call.refusal(row, Twin.FURNISHED_SETS).equals("none")) {
                    look("wrong arguments", call, row);
                    if (known == 1) {
                        everyAnswerAsBefore(call, row);
                    }
                }
            });
        }
    }

    /** What look leaves out: all tables and pairs, a register at a time, as they are too many for one object. */
    private static void everyAnswerAsBefore(Signature call, int[] row) {
        for (int r = 0; r < 16; r++) {
            Twin twin = Twin.furnished("as before: " + call.name() + Arrays.toString(row));
            twin.ask(call.name(), row);
            twin.askTable(r);
            for (int other = 0; other < 16; other++) {
                twin.ask("same", r, other);
            }
        }
    }

    private static int[] rightOrWrong(Kind kind, int variant) {
        int wrong = new int[] {-1, kind.last + 1, Integer.MIN_VALUE, Integer.MAX_VALUE}[variant];
        switch (kind) {
            case RESULT: return new int[] {RESULT, wrong};
            case REGISTER: return new int[] {ORDINARY, wrong};
            case SET: return new int[] {A_SET, NO_SET, wrong};
            case FLAG: return new int[] {variant & 1};
            default: return new int[] {kind.last, wrong};
        }
    }

    private static void resultIsOneOfTheOthers(Signature call) {
        Function<Kind, int[]> choices = kind -> {
            switch (kind) {
                case RESULT: case REGISTER: return new int[] {OTHER_SET, A_SET, STEPS, ORDINARY};
                case SET: return new int[] {OTHER_SET, A_SET};
                case OPERATION: return new int[] {2, 6, 13};
                case MASK: return new int[] {0x2D};
                case FORMULA: return FORMULAS;
                case FLAG: return FLAGS;
                default: return new int[] {0, kind.last};
            }
        };
        call.eachRow(choices, row -> {
            if (hasResultAmongTheOthers(call, row)) {
                look("the result is one of the others", call, row);
            }
        });
    }

    private static boolean hasResultAmongTheOthers(Signature call, int[] row) {
        boolean found = false;
        for (int i = 1; i < row.length; i++) {
            found |= call.kinds()[i].isRegister() && row[i] == row[0];
        }
        return found;
    }

    private static void constantFunctions(Signature call) {
        call.eachRow(kind -> {
            switch (kind) {
                case RESULT: return new int[] {RESULT};
                case REGISTER: return new int[] {NEVER, ALWAYS, STEPS};
                case SET: return new int[] {NEVER, ALWAYS, A_SET};
                case OPERATION: return OPERATIONS;
                case FORMULA: return FORMULAS;
                case FLAG: return FLAGS;
                default: return new int[] {0, kind.last};
            }
        }, row -> look("constant functions", call, row));
    }
}
