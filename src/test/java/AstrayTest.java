import java.lang.reflect.Field;
import java.lang.reflect.Method;

/**
 * Promise 25 from within: no run of calls makes a wrong node, so this test breaks the store's rows by hand
 * and looks whether astray tells it.
 */
public final class AstrayTest {
    private final SymbolicChecker checker = new SymbolicChecker();
    private final int[] label;
    private final int[] low;
    private final int[] high;
    private final int[] levelOf;
    private final int[] roots;

    private AstrayTest() throws ReflectiveOperationException {
        checker.variable(0, 0);
        checker.variable(1, 1);
        checker.apply(2, 8, 0, 1);
        checker.apply(3, 6, 0, 1);
        label = row("label");
        low = row("low");
        high = row("high");
        levelOf = row("levelOf");
        roots = row("roots");
        Expect.due("astray() of whole diagrams", checker.astray(), 0);
    }

    public static void main(String[] arguments) throws ReflectiveOperationException {
        new AstrayTest().bothWaysTheSame();
        new AstrayTest().twice();
        new AstrayTest().underALaterOne();
        new AstrayTest().underALaterOneByItsLowWay();
        new AstrayTest().noNodeAtAll();
        Expect.end("AstrayTest");
    }

    private Object store() throws ReflectiveOperationException {
        Field store = SymbolicChecker.class.getDeclaredField("diagrams");
        store.setAccessible(true);
        return store.get(checker);
    }

    private int[] row(String name) throws ReflectiveOperationException {
        Field row = store().getClass().getDeclaredField(name);
        row.setAccessible(true);
        return (int[]) row.get(store());
    }

    /** Puts the changed nodes where they are looked for, so that they are wrong in one way alone. */
    private void collect() throws ReflectiveOperationException {
        Method collect = store().getClass().getDeclaredMethod("collect");
        collect.setAccessible(true);
        collect.invoke(store());
    }

    private void bothWaysTheSame() throws ReflectiveOperationException {
        int n = roots[2];
        high[n] = low[n];
        collect();
        Expect.due("astray() with both ways of a node the same", checker.astray(), 1);
    }

    private void twice() throws ReflectiveOperationException {
        int n = roots[0];
        int m = roots[1];
        label[n] = label[m];
        low[n] = low[m];
        high[n] = high[m];
        collect();
        Expect.due("astray() with a node that stands twice", checker.astray(), 1);
    }

    private void underALaterOne() {
        levelOf[0] = 1;
        levelOf[1] = 0;
        // Variable 1 itself, under both and and xor, and its opposite, under xor.
        Expect.due("astray() with two nodes under later ones", checker.astray(), 2);
    }

    private void underALaterOneByItsLowWay() {
        checker.apply(2, 14, 0, 1);
        checker.constant(3, false);
        levelOf[0] = 1;
        levelOf[1] = 0;
        Expect.due("astray() with variable 1 under or alone", checker.astray(), 1);
    }

    private void noNodeAtAll() {
        label[roots[0]] = -1;
        Expect.due("astray() with a register without a diagram", checker.astray(), 1);
    }
}
