/** Promises 8 and 9: memory and setMemory. */
public final class MemoryTest {
    private static final int[] NO_CELLS = {-1, -64, 64, 65, 128, Integer.MIN_VALUE, Integer.MAX_VALUE};

    public static void main(String[] args) {
        ChainedVectorUnit unit = new ChainedVectorUnit(2, 4);
        for (int cell = 0; cell < 64; cell++) {
            Check.due("setMemory(" + cell + ")", unit.setMemory(cell, 31 * cell - 900), true);
        }
        int[] before = State.of(unit);
        for (int cell : NO_CELLS) {
            Check.due("setMemory(" + cell + ")", unit.setMemory(cell, 4321), false);
            Check.due("memory(" + cell + ")", unit.memory(cell), 0);
        }
        State.same("after refused calls", State.of(unit), before);
        for (int cell = 0; cell < 64; cell++) {
            Check.due("memory(" + cell + ")", unit.memory(cell), 31 * cell - 900);
        }
        unit.setMemory(63, Integer.MIN_VALUE);
        Check.due("the least int", unit.memory(63), Integer.MIN_VALUE);
        unit.setMemory(63, 0);
        Check.due("set again", unit.memory(63), 0);
        Check.end();
    }
}
