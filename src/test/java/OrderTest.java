/** "Terms": one instruction wholly after the other, and one element after the other within one. */
public final class OrderTest implements Ops {
    public static void main(String[] args) {
        Check.onEach("one instruction wholly after the other: read after write", OrderTest::readAfterWrite);
        Check.onEach("one instruction wholly after the other: write after read", OrderTest::writeAfterRead);
        Check.onEach("one instruction wholly after the other: write after write", OrderTest::writeAfterWrite);
        Check.onEach("one instruction wholly after the other: load after store", OrderTest::loadAfterStore);
        Check.onEach("one instruction wholly after the other: gather after store", OrderTest::gatherAfterStore);
        Check.onEach("one instruction wholly after the other: store after load", OrderTest::storeAfterLoad);
        Check.onEach("one instruction wholly after the other: store after gather", OrderTest::storeAfterGather);
        Check.onEach("one instruction wholly after the other: store after store", OrderTest::storeAfterStore);
        Check.onEach("one instruction wholly after the other: use after sum", OrderTest::useAfterSum);
        Check.onEach("one instruction wholly after the other: set after sum", OrderTest::setAfterSum);
        Check.onEach("one instruction wholly after the other: set after use", OrderTest::setAfterUse);
        Check.onEach("one instruction wholly after the other: SLEN after vectors", OrderTest::lengthAfterVectors);
        Check.onEach("one instruction wholly after the other: SLEN after sum", OrderTest::lengthAfterSum);
        Check.onEach("Within one instruction element i is read before element i is written", OrderTest::readBeforeWritten);
        Check.onEach("Within one instruction element i is read before element i is written: VGATHER",
            OrderTest::gatheredBeforeWritten);
        Check.onEachSize("element i is finished before element i + 1 is begun: a store writes a cell twice",
            OrderTest::lastStoreStays);
        Check.onEachSize("in ascending order: a store writes one cell with all its elements", OrderTest::allToOneCell);
        Check.end();
    }

    private static void readAfterWrite(ChainedVectorUnit unit) {
        Drive.setVector(unit, 0, i -> i);
        Drive.program(unit, Drive.in(SSET, 0, 10, 0), Drive.in(VADDS, 1, 0, 0), Drive.in(VADDS, 2, 1, 0),
            Drive.in(VADDS, 3, 2, 0), Drive.in(VADD, 0, 3, 1));
        Drive.vectorIs("first", unit, 1, i -> i + 10);
        Drive.vectorIs("second", unit, 2, i -> i + 20);
        Drive.vectorIs("third", unit, 3, i -> i + 30);
        Drive.vectorIs("fourth", unit, 0, i -> 2 * i + 40);
    }

    private static void writeAfterRead(ChainedVectorUnit unit) {
        Drive.setVector(unit, 0, i -> i + 1);
        Drive.setVector(unit, 1, i -> 100 + i);
        // The store and the sum must still see the old register 0, although they wait themselves.
        Drive.program(unit, Drive.in(VMUL, 2, 0, 0), Drive.in(VMUL, 2, 2, 0), Drive.in(VSUM, 1, 0, 0),
            Drive.in(VSTORE, 0, 0, 1), Drive.in(VSUB, 3, 2, 0), Drive.in(VADD, 0, 1, 1));
        Drive.vectorIs("the cube", unit, 2, i -> (i + 1) * (i + 1) * (i + 1));
        Drive.vectorIs("the cube without the number", unit, 3, i -> (i + 1) * (i + 1) * (i + 1) - i - 1);
        Check.due("the sum of the old register", unit.scalar(1), 136);
        Drive.cellsAre("the old register", unit, cell -> cell < 16 ? cell + 1 : 0);
        Drive.vectorIs("the new register", unit, 0, i -> 200 + 2 * i);
    }

    private static void writeAfterWrite(ChainedVectorUnit unit) {
        Drive.setVector(unit, 0, i -> i + 1);
        Drive.setVector(unit, 1, i -> 100 + i);
        Drive.setCells(unit, cell -> 500 + cell);
        // The first write to register 2 waits for register 3, the second one for nothing.
        Drive.program(unit, Drive.in(VMUL, 3, 0, 0), Drive.in(VMUL, 3, 3, 3), Drive.in(VMUL, 2, 3, 3),
            Drive.in(VADD, 2, 1, 1));
        Drive.vectorIs("the sum came last", unit, 2, i -> 200 + 2 * i);
        Drive.program(unit, Drive.in(VMUL, 3, 0, 0), Drive.in(VADD, 2, 3, 3), Drive.in(VLOAD, 2, 0, 2));
        Drive.vectorIs("the load came last", unit, 2, i -> 500 + 2 * i);
        Drive.program(unit, Drive.in(VLOAD, 2, 0, 2), Drive.in(VGATHER, 2, 0, 0), Drive.in(VMAX, 2, 0, 0));
        Drive.vectorIs("the greater came last", unit, 2, i -> i + 1);
        Drive.program(unit, Drive.in(VMAX, 2, 1, 1), Drive.in(VGATHER, 2, 0, 0));
        Drive.vectorIs("the gather came last", unit, 2, i -> 501 + i);
    }

    private static void loadAfterStore(ChainedVectorUnit unit) {
        Drive.setVector(unit, 0, i -> 10 + i);
        Drive.program(unit, Drive.in(SSET, 1, 15, 0), Drive.in(VSTORE, 0, 0, 1), Drive.in(VLOAD, 1, 0, 1),
            Drive.in(VLOAD, 2, 1, -1), Drive.in(VLOAD, 3, 1, 0));
        Drive.vectorIs("the same way", unit, 1, i -> 10 + i);
        Drive.vectorIs("the other way", unit, 2, i -> 25 - i);
        Drive.vectorIs("the last stored cell alone", unit, 3, i -> 25);
    }

    private static void gatherAfterStore(ChainedVectorUnit unit) {
        Drive.setVector(unit, 0, i -> 10 + i);
        Drive.setVector(unit, 1, i -> 15 - i);
        Drive.program(unit, Drive.in(VSTORE, 0, 0, 1), Drive.in(VGATHER, 2, 1, 0));
        Drive.vectorIs("gathered the other way", unit, 2, i -> 25 - i);
    }

    private static void storeAfterLoad(ChainedVectorUnit unit) {
        Drive.setCells(unit, cell -> 500 + cell);
        Drive.setVector(unit, 0, i -> 10 + i);
        Drive.program(unit, Drive.in(SSET, 1, 15, 0), Drive.in(VLOAD, 1, 1, -1), Drive.in(VSTORE, 0, 0, 1),
            Drive.in(VLOAD, 2, 0, 1));
        Drive.vectorIs("loaded before", unit, 1, i -> 515 - i);
        Drive.vectorIs("loaded after", unit, 2, i -> 10 + i);
    }

    private static void storeAfterGather(ChainedVectorUnit unit) {
        Drive.setCells(unit, cell -> 500 + cell);
        Drive.setVector(unit, 0, i -> 15 - i);
        Drive.program(unit, Drive.in(VGATHER, 1, 0, 0), Drive.in(VSTORE, 0, 0, 1), Drive.in(VGATHER, 2, 0, 0));
        Drive.vectorIs("gathered before", unit, 1, i -> 515 - i);
        Drive.vectorIs("gathered after", unit, 2, i -> i);
    }

    private static void storeAfterStore(ChainedVectorUnit unit) {
        Drive.setVector(unit, 0, i -> 10 + i);
        Drive.setVector(unit, 1, i -> 300 + i);
        Drive.program(unit, Drive.in(SSET, 1, 15, 0), Drive.in(VSTORE, 0, 0, 1), Drive.in(VSTORE, 1, 1, -1));
        Drive.cellsAre("the second store stays", unit, cell -> cell < 16 ? 315 - cell : 0);
        Drive.program(unit, Drive.in(VSTORE, 1, 0, 0), Drive.in(VSTORE, 0, 0, 1));
        Drive.cellsAre("the third store stays", unit, cell -> cell < 16 ? 10 + cell : 0);
    }

    private static void useAfterSum(ChainedVectorUnit unit) {
        Drive.setVector(unit, 0, i -> i);
        Drive.setCells(unit, cell -> 500 + cell);
        Drive.program(unit, Drive.in(VSUM, 0, 0, 0), Drive.in(VADDS, 1, 0, 0), Drive.in(SADD, 1, 0, 0),
            Drive.in(VSUM, 2, 1, 0), Drive.in(VMULS, 2, 0, 2), Drive.in(VSUM, 0, 0, 0), Drive.in(VLOAD, 3, 0, 1));
        Check.due("the sum", unit.scalar(0), 120);
        Check.due("the sum twice", unit.scalar(1), 240);
        Check.due("the sum of what the sum was added to", unit.scalar(2), 2040);
        Drive.vectorIs("the sum added", unit, 1, i -> 120 + i);
        Drive.vectorIs("times the second sum", unit, 2, i -> 2040 * i);
        Drive.vectorIs("loaded from cell 120 & 63 on", unit, 3, i -> 500 + (56 + i) % 64);
        Drive.program(unit, Drive.in(VSUM, 3, 0, 0), Drive.in(VSTORE, 0, 3, 1));
        Check.due("stored from cell 120 & 63 on", unit.memory(57), 1);
        Check.due("stored past the last cell", unit.memory(7), 15);
    }

    private static void setAfterSum(ChainedVectorUnit unit) {
        Drive.setVector(unit, 0, i -> i);
        Drive.program(unit, Drive.in(VSUM, 0, 0, 0), Drive.in(SSET, 0, 7, 0),
            Drive.in(VSUM, 1, 0, 0), Drive.in(SADD, 1, 0, 0),
            Drive.in(SSET, 2, 9, 0), Drive.in(VSUM, 2, 0, 0),
            Drive.in(VADD, 1, 0, 0), Drive.in(VSUM, 3, 1, 0), Drive.in(VSUM, 3, 0, 0));
        Check.due("the number came last", unit.scalar(0), 7);
        Check.due("SADD came last", unit.scalar(1), 14);
        Check.due("the sum came last", unit.scalar(2), 120);
        Check.due("the second sum came last", unit.scalar(3), 120);
    }

    private static void setAfterUse(ChainedVectorUnit unit) {
        Drive.setVector(unit, 0, i -> i);
        Drive.setCells(unit, cell -> 500 + cell);
        Drive.program(unit, Drive.in(SSET, 0, 3, 0), Drive.in(VADDS, 1, 0, 0), Drive.in(SSET, 0, 5, 0),
            Drive.in(VMULS, 2, 1, 0), Drive.in(SSET, 0, 20, 0), Drive.in(VLOAD, 3, 0, 1), Drive.in(SSET, 0, 40, 0),
            Drive.in(VSTORE, 2, 0, 1), Drive.in(VSUM, 0, 0, 0), Drive.in(SADD, 1, 0, 0), Drive.in(SSET, 0, -1, 0));
        Drive.vectorIs("added 3", unit, 1, i -> i + 3);
        Drive.vectorIs("times 5", unit, 2, i -> 5 * i + 15);
        Drive.vectorIs("loaded from 20 on", unit, 3, i -> 520 + i);
        Drive.cellsAre("stored from 40 on", unit,
            cell -> cell >= 40 && cell < 56 ? 5 * (cell - 40) + 15 : 500 + cell);
        Check.due("the last number", unit.scalar(0), -1);
        Check.due("the sum twice", unit.scalar(1), 240);
    }

    private static void lengthAfterVectors(ChainedVectorUnit unit) {
        Drive.program(unit, Drive.in(SSET, 0, 1, 0), Drive.in(SSET, 1, 4, 0), Drive.in(SSET, 2, 16, 0),
            Drive.in(VADDS, 0, 0, 0), Drive.in(SLEN, 1, 0, 0), Drive.in(VADDS, 0, 0, 0), Drive.in(VADD, 1, 0, 0),
            Drive.in(SLEN, 3, 0, 0), Drive.in(VADDS, 0, 0, 0), Drive.in(VSUM, 3, 0, 0),
            Drive.in(SLEN, 2, 0, 0), Drive.in(VADDS, 0, 0, 0), Drive.in(VADD, 2, 0, 1));
        Drive.vectorIs("lengths 16, 4, 0 and 16", unit, 0, i -> i < 4 ? 3 : 2);
        Drive.vectorIs("length 4", unit, 1, i -> i < 4 ? 4 : 0);
        Drive.vectorIs("length 16 at the end", unit, 2, i -> i < 4 ? 7 : 2);
        Check.due("the sum at length 0", unit.scalar(3), 0);
        Check.due("vectorLength()", unit.vectorLength(), 16);
    }

    private static void lengthAfterSum(ChainedVectorUnit unit) {
        Drive.setVector(unit, 0, i -> i == 15 ? 9 : i == 3 ? -4 : 0);
        Drive.setVector(unit, 1, i -> -i);
        Drive.program(unit, Drive.in(SSET, 0, 3, 0), Drive.in(VSUM, 1, 0, 0), Drive.in(SLEN, 1, 0, 0),
            Drive.in(VADDS, 2, 0, 0));
        Check.due("vectorLength() of the sum 5", unit.vectorLength(), 5);
        Drive.vectorIs("at that length", unit, 2, i -> i == 3 ? -1 : i < 5 ? 3 : 0);
        Drive.program(unit, Drive.in(VSUM, 2, 1, 0), Drive.in(SLEN, 2, 0, 0), Drive.in(VADDS, 3, 0, 0));
        Check.due("vectorLength() of the sum -10", unit.vectorLength(), 0);
        Drive.vectorIs("at length 0", unit, 3, i -> 0);
    }

    private static void readBeforeWritten(ChainedVectorUnit unit) {
        Drive.setVector(unit, 1, i -> 10);
        Drive.setScalar(unit, 2, 3);
        int[][] instructions = {
            Drive.in(VADD, 0, 0, 0), Drive.in(VADD, 0, 1, 0), Drive.in(VSUB, 0, 0, 0), Drive.in(VSUB, 0, 1, 0),
            Drive.in(VSUB, 0, 0, 1), Drive.in(VMUL, 0, 0, 0), Drive.in(VMUL, 0, 1, 0), Drive.in(VMAX, 0, 0, 0),
            Drive.in(VMAX, 0, 1, 0), Drive.in(VADDS, 0, 0, 2), Drive.in(VMULS, 0, 0, 2)};
        int[][] due = {{8, 24}, {14, 22}, {0, 0}, {6, -2}, {-6, 2}, {16, 144}, {40, 120}, {4, 12}, {10, 12}, {7, 15}, {12, 36}};
        for (int n = 0; n < instructions.length; n++) {
            int[] want = due[n];
            Drive.setVector(unit, 0, i -> i % 2 == 0 ? 4 : 12);
            Drive.program(unit, instructions[n]);
            Drive.vectorIs("op " + instructions[n][0] + " onto itself, way " + n, unit, 0, i -> want[i % 2]);
        }
    }

    private static void gatheredBeforeWritten(ChainedVectorUnit unit) {
        Drive.setCells(unit, cell -> 63 - cell);
        Drive.setVector(unit, 2, i -> 2 * i);
        Drive.one(unit, VGATHER, 2, 2, 0);
        Drive.vectorIs("gathered onto itself", unit, 2, i -> 63 - 2 * i);
        Drive.program(unit, Drive.in(VGATHER, 2, 2, 0), Drive.in(VGATHER, 2, 2, 0));
        Drive.vectorIs("gathered onto itself three times", unit, 2, i -> 63 - 2 * i);
    }

    private static void lastStoreStays(int lanes, int delay) {
        int[] steps = {16, 32, -16, -32, 48, MIN + 32};
        for (int step : steps) {
            for (int length = 0; length <= 16; length++) {
                ChainedVectorUnit unit = new ChainedVectorUnit(lanes, delay);
                int[] due = new int[64];
                for (int i = 0; i < length; i++) {
                    due[(5 + i * step) & 63] = 100 + i;
                }
                Drive.setVector(unit, 0, i -> 100 + i);
                Drive.setLength(unit, length);
                Drive.program(unit, Drive.in(SSET, 0, 5, 0), Drive.in(VSTORE, 0, 0, step));
                Drive.cellsAre("step " + step + ", L = " + length, unit, cell -> due[cell]);
            }
        }
    }

    private static void allToOneCell(int lanes, int delay) {
        int[] steps = {0, 64, -64, MIN};
        for (int step : steps) {
            ChainedVectorUnit unit = new ChainedVectorUnit(lanes, delay);
            Drive.setVector(unit, 0, i -> 100 + i);
            for (int length = 1; length <= 16; length++) {
                Drive.setLength(unit, length);
                Drive.program(unit, Drive.in(SSET, 0, 2 * length, 0), Drive.in(VSTORE, 0, 0, step));
                Check.due("step " + step + ", L = " + length, unit.memory(2 * length), 99 + length);
                Check.due("the cell behind it", unit.memory(2 * length + 1), 0);
            }
        }
    }
}
