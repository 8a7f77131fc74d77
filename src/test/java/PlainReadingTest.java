/**
 * Promises 1 and 3: many programs full of clashes, over every number of lanes and every delay,
 * leave what the plain reading leaves.
 */
public final class PlainReadingTest {
    private static final int PROGRAMS = 4000;
    // Two runs keep an object below its 512 calls.
    private static final int RUNS_OF_AN_OBJECT = 2;
    private static final int[] STEPS = {0, 1, -1, 2, 4, 16, 32, 63, 64, Integer.MAX_VALUE, Integer.MIN_VALUE};
    private static final int[] NUMBERS = {0, 1, 2, 3, 5, 8, 15, 16, 17, 60, -1, -7, Integer.MAX_VALUE};

    private final Row row = new Row(20261115);

    public static void main(String[] args) {
        Check.once("what running it leaves is what this plain reading gives", () -> new PlainReadingTest().compareAll());
        Check.end();
    }

    private void compareAll() {
        for (int program = 0; program < PROGRAMS; program++) {
            int lanes = 1 + program % 4;
            int delay = 1 + program / 4 % 5;
            compare("program " + program, new ChainedVectorUnit(lanes, delay));
        }
    }

    private void compare(String when, ChainedVectorUnit unit) {
        PlainReading plain = new PlainReading();
        fill(unit, plain);
        for (int round = 0; round < RUNS_OF_AN_OBJECT; round++) {
            int size = round == 0 ? 16 : row.below(17);
            for (int n = 1; n <= size; n++) {
                emitBoth(unit, plain, n);
            }
            Check.due(when + ": run()", unit.run(), size);
            State.same(when, State.of(unit), plain.state());
        }
    }

    private void fill(ChainedVectorUnit unit, PlainReading plain) {
        for (int v = 0; v < 4; v++) {
            for (int i = 0; i < 16; i++) {
                plain.vectors[v][i] = row.below(200) - 100;
                unit.setElement(v, i, plain.vectors[v][i]);
            }
        }
        for (int cell = 0; cell < 64; cell++) {
            plain.cells[cell] = row.below(2000) - 1000;
            unit.setMemory(cell, plain.cells[cell]);
        }
    }

    private void emitBoth(ChainedVectorUnit unit, PlainReading plain, int n) {
        int op = row.below(13);
        if (op == ChainedVectorUnit.SLEN && row.below(2) == 0) {
            // Short lengths end most clashes, so they are kept rarer than the other instructions.
            op = ChainedVectorUnit.VADDS;
        }
        int x = row.below(4);
        int y = op == ChainedVectorUnit.SSET ? row.oneOf(NUMBERS) : row.below(4);
        boolean steps = op == ChainedVectorUnit.VLOAD || op == ChainedVectorUnit.VSTORE;
        int z = steps ? row.oneOf(STEPS) : row.below(4);
        Check.due("emit", unit.emit(op, x, y, z), n);
        plain.step(op, x, y, z);
    }
}
