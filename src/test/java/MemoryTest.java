/** Promises 8 and 9: memory and setMemory. */
public final class MemoryTest implements Ops {
    private static final int[] NO_CELLS = {-1, -2, -64, 64, 65, 127, 128, 256, 0x10000, MIN, MIN + 63, MAX};
    private static final int[] INTS = {MIN, MIN + 1, -1, 0, 1, MAX};

    public static void main(String[] args) {
        Check.onEach("A memory cell", MemoryTest::everyCell);
        Check.onEach("0 for cell outside 0..63", MemoryTest::zeroOutside);
        Check.onEach("memory changes nothing", MemoryTest::lookingChangesNothing);
        Check.onEach("Sets a memory cell", MemoryTest::setsOneCell);
        Check.onEach("Sets a memory cell: to any int", MemoryTest::setsAnyInt);
        Check.onEach("cell outside 0..63: refused, answers false", MemoryTest::refusesOutside);
        Check.onEach("Else true: every cell", MemoryTest::trueForEvery);
        Check.end();
    }

    private static void everyCell(ChainedVectorUnit unit) {
        Drive.setCells(unit, cell -> 31 * cell - 900);
        Drive.cellsAre("set", unit, cell -> 31 * cell - 900);
    }

    private static void zeroOutside(ChainedVectorUnit unit) {
        Drive.setCells(unit, cell -> cell + 1);
        for (int cell : NO_CELLS) {
            Check.due("memory(" + cell + ")", unit.memory(cell), 0);
        }
    }

    private static void lookingChangesNothing(ChainedVectorUnit unit) {
        State.fill(unit);
        unit.memory(63);
        unit.memory(64);
        unit.memory(-1);
        State.same("after looking", State.of(unit), State.filled());
        Check.due("run()", unit.run(), 0);
    }

    private static void setsOneCell(ChainedVectorUnit unit) {
        State.fill(unit);
        int[] due = State.filled();
        int[] cells = {0, 1, 31, 32, 62, 63};
        for (int cell : cells) {
            due[State.CELL_0 + cell] = 7000 + cell;
            Check.due("setMemory", unit.setMemory(cell, 7000 + cell), true);
        }
        State.same("after setting", State.of(unit), due);
    }

    private static void setsAnyInt(ChainedVectorUnit unit) {
        for (int value : INTS) {
            Check.due("setMemory(0, " + value + ")", unit.setMemory(0, value), true);
            Check.due("memory(0)", unit.memory(0), value);
            Check.due("setMemory(63, " + value + ")", unit.setMemory(63, value), true);
            Check.due("memory(63)", unit.memory(63), value);
        }
    }

    private static void refusesOutside(ChainedVectorUnit unit) {
        Drive.setCells(unit, cell -> cell + 1);
        for (int cell : NO_CELLS) {
            Check.due("setMemory(" + cell + ", 900)", unit.setMemory(cell, 900), false);
        }
        Drive.cellsAre("after refused calls", unit, cell -> cell + 1);
    }

    private static void trueForEvery(ChainedVectorUnit unit) {
        for (int cell = 0; cell < 64; cell++) {
            Check.due("setMemory(" + cell + ", 5)", unit.setMemory(cell, 5), true);
            Check.due("the same again", unit.setMemory(cell, 5), true);
            Check.due("memory(" + cell + ")", unit.memory(cell), 5);
        }
    }
}
