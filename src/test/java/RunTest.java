/** Promise 3: run, one instruction at a time, with numbers worked out by hand. */
public final class RunTest {
    private static final int MIN = Integer.MIN_VALUE;
    private static final int MAX = Integer.MAX_VALUE;

    public static void main(String[] args) {
        for (int lanes = 1; lanes <= 4; lanes++) {
            for (int delay = 1; delay <= 5; delay++) {
                vectorArithmetic(lanes, delay);
                scalarArithmetic(lanes, delay);
                loads(lanes, delay);
                stores(lanes, delay);
                gathers(lanes, delay);
                sums(lanes, delay);
                scalarsAndLength(lanes, delay);
                lengthCutsVectors(lanes, delay);
                programIsEmptied(lanes, delay);
            }
        }
        Check.end();
    }

    private static void one(ChainedVectorUnit unit, int op, int x, int y, int z) {
        unit.emit(op, x, y, z);
        Check.due("run() of op " + op, unit.run(), 1);
    }

    private static void setScalar(ChainedVectorUnit unit, int s, int value) {
        one(unit, ChainedVectorUnit.SSET, s, value, 0);
    }

    private static void setLength(ChainedVectorUnit unit, int length) {
        setScalar(unit, 3, length);
        one(unit, ChainedVectorUnit.SLEN, 3, 0, 0);
    }

    private static void arithmetic(ChainedVectorUnit unit, int op, int first, int second, int last) {
        one(unit, op, 2, 0, 1);
        Check.due("op " + op + ", element 0", unit.element(2, 0), first);
        Check.due("op " + op + ", element 1", unit.element(2, 1), second);
        Check.due("op " + op + ", element 15", unit.element(2, 15), last);
        Check.due("op " + op + ", the operand stays", unit.element(0, 0), 7);
    }

    private static void vectorArithmetic(int lanes, int delay) {
        ChainedVectorUnit unit = new ChainedVectorUnit(lanes, delay);
        unit.setElement(0, 0, 7);
        unit.setElement(1, 0, -3);
        unit.setElement(0, 1, MAX);
        unit.setElement(1, 1, 2);
        unit.setElement(0, 15, MIN);
        unit.setElement(1, 15, 1);
        arithmetic(unit, ChainedVectorUnit.VADD, 4, MIN + 1, MIN + 1);
        arithmetic(unit, ChainedVectorUnit.VSUB, 10, MAX - 2, MAX);
        arithmetic(unit, ChainedVectorUnit.VMUL, -21, -2, MIN);
        arithmetic(unit, ChainedVectorUnit.VMAX, 7, MAX, 1);
    }

    private static void scalarArithmetic(int lanes, int delay) {
        ChainedVectorUnit unit = new ChainedVectorUnit(lanes, delay);
        unit.setElement(0, 0, 7);
        unit.setElement(0, 1, MAX);
        unit.setElement(0, 15, MIN);
        setScalar(unit, 1, 3);
        arithmetic(unit, ChainedVectorUnit.VADDS, 10, MIN + 2, MIN + 3);
        arithmetic(unit, ChainedVectorUnit.VMULS, 21, MAX - 2, MIN);
    }

    private static ChainedVectorUnit withCells(int lanes, int delay) {
        ChainedVectorUnit unit = new ChainedVectorUnit(lanes, delay);
        for (int cell = 0; cell < 64; cell++) {
            unit.setMemory(cell, 500 + cell);
        }
        return unit;
    }

    private static void load(ChainedVectorUnit unit, int base, int step, int second, int last) {
        setScalar(unit, 2, base);
        one(unit, ChainedVectorUnit.VLOAD, 1, 2, step);
        String call = "load from " + base + " by " + step;
        Check.due(call + ", element 0", unit.element(1, 0), 500 + (base & 63));
        Check.due(call + ", element 1", unit.element(1, 1), 500 + second);
        Check.due(call + ", element 15", unit.element(1, 15), 500 + last);
    }

    private static void loads(int lanes, int delay) {
        ChainedVectorUnit unit = withCells(lanes, delay);
        load(unit, 0, 1, 1, 15);
        load(unit, 60, 1, 61, 11);
        load(unit, -1, -1, 62, 48);
        load(unit, 9, 0, 9, 9);
        load(unit, 64, 64, 0, 0);
        load(unit, MAX, 1, 0, 14);
        load(unit, 0, MAX, 63, 49);
        load(unit, 5, MIN, 5, 5);
    }

    private static void stores(int lanes, int delay) {
        ChainedVectorUnit unit = withCells(lanes, delay);
        for (int i = 0; i < 16; i++) {
            unit.setElement(3, i, i + 1);
        }
        setScalar(unit, 0, -2);
        one(unit, ChainedVectorUnit.VSTORE, 3, 0, 3);
        Check.due("store, cell 62", unit.memory(62), 1);
        Check.due("store, cell 1", unit.memory(1), 2);
        Check.due("store, cell 43", unit.memory(43), 16);
        Check.due("store, a cell between", unit.memory(2), 502);
        Check.due("store, the register stays", unit.element(3, 4), 5);
        one(unit, ChainedVectorUnit.VSTORE, 3, 0, 0);
        Check.due("all to one cell: the last stays", unit.memory(62), 16);
        setScalar(unit, 0, 20);
        one(unit, ChainedVectorUnit.VSTORE, 3, 0, 16);
        Check.due("four cells in turn, 20", unit.memory(20), 13);
        Check.due("four cells in turn, 36", unit.memory(36), 14);
        Check.due("four cells in turn, 4", unit.memory(4), 16);
    }

    private static void gathers(int lanes, int delay) {
        ChainedVectorUnit unit = withCells(lanes, delay);
        unit.setElement(0, 0, 63);
        unit.setElement(0, 1, 64);
        unit.setElement(0, 2, -1);
        unit.setElement(0, 15, MIN + 9);
        one(unit, ChainedVectorUnit.VGATHER, 1, 0, -77);
        Check.due("gather 63", unit.element(1, 0), 563);
        Check.due("gather 64", unit.element(1, 1), 500);
        Check.due("gather -1", unit.element(1, 2), 563);
        Check.due("gather MIN + 9", unit.element(1, 15), 509);
        one(unit, ChainedVectorUnit.VGATHER, 0, 0, 0);
        Check.due("gather into its own register", unit.element(0, 0), 563);
    }

    private static void sums(int lanes, int delay) {
        ChainedVectorUnit unit = new ChainedVectorUnit(lanes, delay);
        for (int i = 0; i < 16; i++) {
            unit.setElement(2, i, 1 << i);
        }
        setScalar(unit, 1, 99);
        one(unit, ChainedVectorUnit.VSUM, 1, 2, MAX);
        Check.due("sum of 16", unit.scalar(1), 65535);
        setLength(unit, 5);
        one(unit, ChainedVectorUnit.VSUM, 1, 2, 0);
        Check.due("sum of 5", unit.scalar(1), 31);
        setLength(unit, 0);
        one(unit, ChainedVectorUnit.VSUM, 1, 2, 0);
        Check.due("sum of none", unit.scalar(1), 0);
        setLength(unit, 2);
        unit.setElement(2, 0, MAX);
        one(unit, ChainedVectorUnit.VSUM, 1, 2, 0);
        Check.due("a sum wraps", unit.scalar(1), MIN + 1);
    }

    private static void scalarsAndLength(int lanes, int delay) {
        ChainedVectorUnit unit = new ChainedVectorUnit(lanes, delay);
        int[] lengths = {MIN, -1, 0, 1, 9, 15, 16, 17, MAX};
        int[] due = {0, 0, 0, 1, 9, 15, 16, 16, 16};
        for (int n = 0; n < lengths.length; n++) {
            setLength(unit, lengths[n]);
            Check.due("SLEN of " + lengths[n], unit.vectorLength(), due[n]);
            Check.due("SLEN leaves its scalar", unit.scalar(3), lengths[n]);
        }
        setLength(unit, 0);
        setScalar(unit, 0, MAX);
        setScalar(unit, 1, 2);
        one(unit, ChainedVectorUnit.SADD, 2, 0, 1);
        Check.due("SADD wraps, with L = 0", unit.scalar(2), MIN + 1);
        one(unit, ChainedVectorUnit.SADD, 1, 1, 1);
        Check.due("SADD of one register to itself", unit.scalar(1), 4);
        Check.due("SADD leaves its operands", unit.scalar(0), MAX);
    }

    private static void lengthCutsVectors(int lanes, int delay) {
        for (int op = ChainedVectorUnit.VADD; op <= ChainedVectorUnit.VGATHER; op++) {
            for (int length = 0; length <= 16; length++) {
                lengthCuts(withCells(lanes, delay), op, length);
            }
        }
    }

    private static void lengthCuts(ChainedVectorUnit unit, int op, int length) {
        for (int i = 0; i < 16; i++) {
            unit.setElement(0, i, -5);
        }
        setScalar(unit, 1, 1);
        setLength(unit, length);
        one(unit, op, 0, 1, 1);
        for (int i = 0; i < 16; i++) {
            boolean kept = op == ChainedVectorUnit.VSTORE ? unit.memory(1 + i) == 501 + i : unit.element(0, i) == -5;
            Check.due("op " + op + " at L = " + length + " keeps place " + i, kept, i >= length);
        }
    }

    private static void programIsEmptied(int lanes, int delay) {
        ChainedVectorUnit unit = new ChainedVectorUnit(lanes, delay);
        Check.due("run() of nothing", unit.run(), 0);
        setScalar(unit, 0, 1);
        for (int n = 1; n <= 16; n++) {
            unit.emit(ChainedVectorUnit.SADD, 0, 0, 0);
            Check.due("nothing runs before run()", unit.scalar(0), 1);
        }
        Check.due("run() of 16", unit.run(), 16);
        Check.due("doubled 16 times", unit.scalar(0), 65536);
        Check.due("run() again", unit.run(), 0);
        Check.due("still doubled 16 times", unit.scalar(0), 65536);
        unit.emit(ChainedVectorUnit.SADD, 0, 0, 0);
        Check.due("run() of 1", unit.run(), 1);
        Check.due("doubled 17 times", unit.scalar(0), 131072);
    }
}
