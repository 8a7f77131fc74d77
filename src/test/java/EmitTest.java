/** Promise 2: emit, its codes and the order in which they are tested. */
public final class EmitTest {
    private static final int[] NO_REGISTERS = {-1, 4, 5, 16, Integer.MIN_VALUE, Integer.MAX_VALUE};
    private static final int[] NO_OPS = {-1, -2, 13, 14, 100, Integer.MIN_VALUE, Integer.MAX_VALUE};

    public static void main(String[] args) {
        numbersTheInstructions();
        for (int op = ChainedVectorUnit.VADD; op <= ChainedVectorUnit.SLEN; op++) {
            takesEveryRegister(op);
            for (int wrong : NO_REGISTERS) {
                looksAtOperands(op, wrong);
            }
        }
        refusesUnknownOps();
        fullComesFirst();
        Check.end();
    }

    private static ChainedVectorUnit fresh() {
        return new ChainedVectorUnit(2, 3);
    }

    private static boolean readsY(int op) {
        return op != ChainedVectorUnit.SSET && op != ChainedVectorUnit.SLEN;
    }

    private static boolean readsZ(int op) {
        return op <= ChainedVectorUnit.VMULS || op == ChainedVectorUnit.SADD;
    }

    private static void numbersTheInstructions() {
        ChainedVectorUnit unit = fresh();
        for (int n = 1; n <= 16; n++) {
            Check.due("emit number " + n, unit.emit((n - 1) % 13, n % 4, (n + 1) % 4, (n + 2) % 4), n);
        }
        Check.due("emit number 17", unit.emit(ChainedVectorUnit.VADD, 0, 0, 0), ChainedVectorUnit.FULL);
        Check.due("emit number 18", unit.emit(ChainedVectorUnit.SSET, 0, 0, 0), ChainedVectorUnit.FULL);
        Check.due("run()", unit.run(), 16);
        Check.due("emit after a run", unit.emit(ChainedVectorUnit.VADD, 0, 0, 0), 1);
    }

    private static void takesEveryRegister(int op) {
        for (int x = 0; x < 4; x++) {
            for (int y = 0; y < 4; y++) {
                for (int z = 0; z < 4; z++) {
                    Check.due("emit(" + op + ", " + x + ", " + y + ", " + z + ")", fresh().emit(op, x, y, z), 1);
                }
            }
        }
    }

    private static void looksAtOperands(int op, int wrong) {
        String call = "emit(" + op + ") with " + wrong;
        Check.due(call + " as x", fresh().emit(op, wrong, 0, 0), ChainedVectorUnit.BAD);
        Check.due(call + " as y", fresh().emit(op, 0, wrong, 0), readsY(op) ? ChainedVectorUnit.BAD : 1);
        Check.due(call + " as z", fresh().emit(op, 0, 0, wrong), readsZ(op) ? ChainedVectorUnit.BAD : 1);
        Check.due(call + " as all", fresh().emit(op, wrong, wrong, wrong), ChainedVectorUnit.BAD);
    }

    private static void refusesUnknownOps() {
        for (int op : NO_OPS) {
            ChainedVectorUnit unit = fresh();
            Check.due("emit(" + op + ")", unit.emit(op, 0, 0, 0), ChainedVectorUnit.BAD);
            Check.due("emit after it", unit.emit(ChainedVectorUnit.SSET, 0, 0, 0), 1);
        }
    }

    private static void fullComesFirst() {
        ChainedVectorUnit unit = fresh();
        for (int n = 1; n <= 15; n++) {
            unit.emit(ChainedVectorUnit.SLEN, 0, 0, 0);
        }
        Check.due("a bad op at 15", unit.emit(13, 0, 0, 0), ChainedVectorUnit.BAD);
        Check.due("the 16th", unit.emit(ChainedVectorUnit.SLEN, 0, 0, 0), 16);
        for (int op : NO_OPS) {
            Check.due("op " + op + " at 16", unit.emit(op, 0, 0, 0), ChainedVectorUnit.FULL);
        }
        for (int wrong : NO_REGISTERS) {
            Check.due("x " + wrong + " at 16", unit.emit(0, wrong, 0, 0), ChainedVectorUnit.FULL);
            Check.due("y " + wrong + " at 16", unit.emit(0, 0, wrong, 0), ChainedVectorUnit.FULL);
            Check.due("z " + wrong + " at 16", unit.emit(0, 0, 0, wrong), ChainedVectorUnit.FULL);
        }
    }
}
