import java.util.List;
import java.util.function.Consumer;
import java.util.function.Function;

/** A call of the document's face with the kinds of its arguments. */
record Signature(String name, Kind... kinds) {
    static final List<Signature> ALL = List.of(
        new Signature("variable", Kind.RESULT, Kind.VARIABLE),
        new Signature("constant", Kind.RESULT, Kind.FLAG),
        new Signature("apply", Kind.RESULT, Kind.OPERATION, Kind.REGISTER, Kind.REGISTER),
        new Signature("choose", Kind.RESULT, Kind.REGISTER, Kind.REGISTER, Kind.REGISTER),
        new Signature("restrict", Kind.RESULT, Kind.REGISTER, Kind.VARIABLE, Kind.FLAG),
        new Signature("quantify", Kind.RESULT, Kind.REGISTER, Kind.MASK, Kind.FLAG),
        new Signature("product", Kind.RESULT, Kind.REGISTER, Kind.REGISTER, Kind.MASK),
        new Signature("compose", Kind.RESULT, Kind.REGISTER, Kind.VARIABLE, Kind.REGISTER),
        new Signature("turn", Kind.RESULT, Kind.REGISTER),
        new Signature("truth", Kind.REGISTER, Kind.ASSIGNMENT),
        new Signature("same", Kind.REGISTER, Kind.REGISTER),
        new Signature("count", Kind.REGISTER),
        new Signature("least", Kind.REGISTER),
        new Signature("depends", Kind.REGISTER),
        new Signature("nodes", Kind.REGISTER),
        new Signature("heap"),
        new Signature("order", Kind.LEVEL),
        new Signature("swap", Kind.UPPER_LEVEL),
        new Signature("place", Kind.VARIABLE, Kind.LEVEL),
        new Signature("sift", Kind.VARIABLE),
        new Signature("image", Kind.RESULT, Kind.REGISTER, Kind.SET),
        new Signature("reach", Kind.RESULT, Kind.REGISTER, Kind.SET),
        new Signature("check", Kind.RESULT, Kind.REGISTER, Kind.FORMULA, Kind.SET, Kind.SET),
        new Signature("astray"));

    boolean hasResult() {
        return kinds.length > 0 && kinds[0] == Kind.RESULT;
    }

    /** The exception that is due, or "none"; the registers whose bits are in sets have sets. */
    String refusal(int[] row, int sets) {
        boolean wrongArgument = false;
        boolean noSet = false;
        for (int i = 0; i < row.length; i++) {
            boolean isInside = kinds[i].has(row[i]);
            if (!isInside && kinds[i].isIndex()) {
                return "IndexOutOfBoundsException";
            }
            wrongArgument |= !isInside;
            noSet |= kinds[i] == Kind.SET && (sets >> row[i] & 1) == 0;
        }
        return wrongArgument ? "IllegalArgumentException" : noSet ? "IllegalStateException" : "none";
    }

    /** Hands over every row of arguments that takes each of them from the choices for its kind. */
    void eachRow(Function<Kind, int[]> choices, Consumer<int[]> taker) {
        eachRow(choices, taker, new int[kinds.length], 0);
    }

    private void eachRow(Function<Kind, int[]> choices, Consumer<int[]> taker, int[] row, int filled) {
        if (filled == row.length) {
            taker.accept(row.clone());
            return;
        }
        for (int choice : choices.apply(kinds[filled])) {
            row[filled] = choice;
            eachRow(choices, taker, row, filled + 1);
        }
    }
}
