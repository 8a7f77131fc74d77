import java.util.function.IntBinaryOperator;

/** "Terms", the instructions that reckon: VADD to VMULS, VSUM, SADD, and arithmetic that wraps. */
public final class ArithmeticTest implements Ops {
    // Worked out by hand: element by element the operands, and what each instruction makes of them.
    private static final int[] A =
        {0, 1, -1, 7, MAX, MIN, MAX, MIN, MIN, 65536, 46341, -3, 5, 5, MIN, MAX};
    private static final int[] B =
        {0, -1, -1, -3, 1, -1, MAX, MIN, MAX, 65536, 46341, 7, 5, 6, 1, -1};
    private static final int[] SUMS =
        {0, 0, -2, 4, MIN, MAX, -2, 0, -1, 131072, 92682, 4, 10, 11, MIN + 1, MAX - 1};
    private static final int[] DIFFERENCES =
        {0, 2, 0, 10, MAX - 1, MIN + 1, 0, 0, 1, 0, 0, -10, 0, -1, MAX, MIN};
    private static final int[] PRODUCTS =
        {0, -1, 1, -21, MAX, MIN, 1, 0, MIN, 0, -2147479015, -21, 25, 30, MIN, MIN + 1};
    private static final int[] GREATER =
        {0, 1, -1, 7, MAX, -1, MAX, MIN, MAX, 65536, 46341, 7, 5, 6, 1, MAX};
    private static final int[] SCALARS = {MIN, MIN + 1, -65537, -1, 0, 1, 2, 3, 65536, MAX - 1, MAX};

    public static void main(String[] args) {
        Check.onEach("VADD: element i of a + element i of b", unit -> vectors(unit, VADD, SUMS));
        Check.onEach("VSUB: a - b", unit -> vectors(unit, VSUB, DIFFERENCES));
        Check.onEach("VMUL: a * b", unit -> vectors(unit, VMUL, PRODUCTS));
        Check.onEach("VMAX: the greater", unit -> vectors(unit, VMAX, GREATER));
        Check.onEach("VMAX: the greater, whichever stands first", ArithmeticTest::greaterEitherWay);
        Check.onEach("VADDS: element i of a + scalar s", unit -> scalars(unit, VADDS, (a, s) -> a + s));
        Check.onEach("VMULS: a * scalar s", unit -> scalars(unit, VMULS, (a, s) -> a * s));
        Check.onEach("VSUM: the sum of the elements 0 to L-1 of a", ArithmeticTest::sums);
        Check.onEach("VSUM: 0 if L is 0", ArithmeticTest::sumOfNone);
        Check.onEach("VSUM: every scalar and every vector", ArithmeticTest::sumsEverywhere);
        Check.onEach("SADD: scalar s becomes scalar t + scalar u", ArithmeticTest::scalarSums);
        Check.onEach("arithmetic wraps as in Java: VADD", unit -> wraps(unit, VADD, MAX, 1, MIN));
        Check.onEach("arithmetic wraps as in Java: VSUB", unit -> wraps(unit, VSUB, MIN, 1, MAX));
        Check.onEach("arithmetic wraps as in Java: VMUL", unit -> wraps(unit, VMUL, MAX, MAX, 1));
        Check.onEach("arithmetic wraps as in Java: VADDS", unit -> wraps(unit, VADDS, MIN, -1, MAX));
        Check.onEach("arithmetic wraps as in Java: VMULS", unit -> wraps(unit, VMULS, MIN, -1, MIN));
        Check.onEach("arithmetic wraps as in Java: VSUM", ArithmeticTest::sumWraps);
        Check.onEach("arithmetic wraps as in Java: SADD", ArithmeticTest::scalarSumWraps);
        Check.end();
    }

    private static void vectors(ChainedVectorUnit unit, int op, int[] due) {
        Drive.setVector(unit, 3, i -> A[i]);
        Drive.setVector(unit, 1, i -> B[i]);
        Drive.one(unit, op, 2, 3, 1);
        Drive.vectorIs("the result", unit, 2, i -> due[i]);
        Drive.vectorIs("the first operand stays", unit, 3, i -> A[i]);
        Drive.vectorIs("the second operand stays", unit, 1, i -> B[i]);
        Drive.vectorIs("the register that is not named stays", unit, 0, i -> 0);
    }

    private static void greaterEitherWay(ChainedVectorUnit unit) {
        Drive.setVector(unit, 0, i -> A[i]);
        Drive.setVector(unit, 1, i -> B[i]);
        Drive.program(unit, Drive.in(VMAX, 2, 1, 0), Drive.in(VMAX, 3, 0, 0));
        Drive.vectorIs("the operands changed about", unit, 2, i -> GREATER[i]);
        Drive.vectorIs("one operand twice", unit, 3, i -> A[i]);
    }

    private static void scalars(ChainedVectorUnit unit, int op, IntBinaryOperator due) {
        Drive.setVector(unit, 0, i -> A[i]);
        for (int n = 0; n < SCALARS.length; n++) {
            int value = SCALARS[n];
            int s = n % 4;
            Drive.program(unit, Drive.in(SSET, s, value, 0), Drive.in(op, 1, 0, s));
            Drive.vectorIs("with the scalar " + value, unit, 1, i -> due.applyAsInt(A[i], value));
            Check.due("the scalar stays", unit.scalar(s), value);
        }
        Drive.vectorIs("the vector stays", unit, 0, i -> A[i]);
    }

    private static void sums(ChainedVectorUnit unit) {
        Drive.setVector(unit, 2, i -> 1 << i);
        for (int length = 0; length <= 16; length++) {
            Drive.setLength(unit, length);
            Drive.program(unit, Drive.in(SSET, 1, 99, 0), Drive.in(VSUM, 1, 2, 0));
            Check.due("the sum at L = " + length, unit.scalar(1), (1 << length) - 1);
        }
        Drive.vectorIs("the vector stays", unit, 2, i -> 1 << i);
    }

    private static void sumOfNone(ChainedVectorUnit unit) {
        Drive.setVector(unit, 2, i -> 5);
        Drive.setLength(unit, 0);
        Drive.program(unit, Drive.in(SSET, 1, 99, 0), Drive.in(SSET, 0, 98, 0));
        Drive.one(unit, VSUM, 1, 2, 0);
        Check.due("the sum of no element", unit.scalar(1), 0);
        Check.due("another scalar", unit.scalar(0), 98);
        Drive.program(unit, Drive.in(SSET, 1, 99, 0), Drive.in(VSUM, 1, 2, 0), Drive.in(SADD, 0, 1, 0));
        Check.due("the sum of no element, set before in the program", unit.scalar(1), 0);
        Check.due("used later in the program", unit.scalar(0), 98);
    }

    private static void sumsEverywhere(ChainedVectorUnit unit) {
        for (int v = 0; v < 4; v++) {
            int value = v + 1;
            Drive.setVector(unit, v, i -> value);
        }
        for (int s = 0; s < 4; s++) {
            for (int v = 0; v < 4; v++) {
                Drive.program(unit, Drive.in(SSET, (s + 1) % 4, 7, 0), Drive.in(VSUM, s, v, 0));
                Check.due("the sum of " + v + " in scalar " + s, unit.scalar(s), 16 * (v + 1));
                Check.due("the scalar beside it", unit.scalar((s + 1) % 4), 7);
            }
        }
    }

    private static void scalarSums(ChainedVectorUnit unit) {
        int[] values = {5, -300, 7000, 11};
        for (int s = 0; s < 4; s++) {
            for (int t = 0; t < 4; t++) {
                int u = (2 * t + s + 1) % 4;
                for (int r = 0; r < 4; r++) {
                    unit.emit(SSET, r, values[r], 0);
                }
                unit.emit(SADD, s, t, u);
                Check.due("run()", unit.run(), 5);
                for (int r = 0; r < 4; r++) {
                    int due = r == s ? values[t] + values[u] : values[r];
                    Check.due("scalar(" + r + ") after SADD " + s + " " + t + " " + u, unit.scalar(r), due);
                }
            }
        }
        Drive.program(unit, Drive.in(SSET, 2, 21, 0), Drive.in(SADD, 2, 2, 2));
        Check.due("a scalar added to itself", unit.scalar(2), 42);
    }

    private static void wraps(ChainedVectorUnit unit, int op, int a, int b, int due) {
        Drive.setVector(unit, 0, i -> a);
        Drive.setVector(unit, 1, i -> b);
        Drive.setScalar(unit, 1, b);
        Drive.one(unit, op, 2, 0, 1);
        Drive.vectorIs(a + " and " + b, unit, 2, i -> due);
    }

    private static void sumWraps(ChainedVectorUnit unit) {
        Drive.setVector(unit, 0, i -> MAX);
        Drive.setVector(unit, 1, i -> MIN);
        Drive.program(unit, Drive.in(VSUM, 0, 0, 0), Drive.in(VSUM, 1, 1, 0));
        Check.due("16 times the greatest int", unit.scalar(0), -16);
        Check.due("16 times the least int", unit.scalar(1), 0);
        Drive.setLength(unit, 2);
        Drive.program(unit, Drive.in(VSUM, 0, 0, 0), Drive.in(VSUM, 1, 1, 0));
        Check.due("twice the greatest int", unit.scalar(0), -2);
        Check.due("twice the least int", unit.scalar(1), 0);
    }

    private static void scalarSumWraps(ChainedVectorUnit unit) {
        Drive.program(unit, Drive.in(SSET, 0, MAX, 0), Drive.in(SSET, 1, 1, 0), Drive.in(SSET, 3, MIN, 0));
        Drive.one(unit, SADD, 2, 0, 1);
        Check.due("MAX + 1", unit.scalar(2), MIN);
        Drive.one(unit, SADD, 2, 0, 0);
        Check.due("MAX + MAX", unit.scalar(2), -2);
        Drive.one(unit, SADD, 2, 3, 3);
        Check.due("MIN + MIN", unit.scalar(2), 0);
        Drive.one(unit, SADD, 2, 3, 0);
        Check.due("MIN + MAX", unit.scalar(2), -1);
    }
}
