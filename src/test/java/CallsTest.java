/** All promises together: long rows of calls, right ones and wrong ones, with the answer to each. */
public final class CallsTest implements Ops {
    private static final int OBJECTS = 2000;
    // Looking at the whole state at the end takes 133 of an object's 512 calls.
    private static final int CALLS = 379;
    private static final int[] NUMBERS = {MIN, -65, -17, -1, 0, 1, 2, 3, 5, 8, 15, 16, 17, 47, 48, 63, 64, 65, MAX};

    private final Row row = new Row(777);
    private ChainedVectorUnit unit;
    private PlainUnit plain;

    public static void main(String[] args) {
        Check.once("All promises: rows of calls of every kind", () -> new CallsTest().allObjects());
        Check.end();
    }

    private void allObjects() {
        for (int object = 0; object < OBJECTS; object++) {
            unit = new ChainedVectorUnit(row.below(8) - 1, row.below(9) - 1);
            plain = new PlainUnit();
            for (int call = 1; call <= CALLS; call++) {
                someCall("object " + object + ", call " + call + ": ");
            }
            State.same("object " + object + " at its end", State.of(unit), plain.state());
        }
    }

    /** Mostly a number within the bound, now and then one that may lie outside. */
    private int nearly(int bound) {
        return row.below(12) == 0 ? row.oneOf(NUMBERS) : row.below(bound);
    }

    private int anyInt() {
        return row.below(3) == 0 ? row.oneOf(NUMBERS) : row.below(130) - 65;
    }

    private void someCall(String when) {
        int kind = row.below(100);
        if (kind < 55) {
            emit(when);
        } else if (kind < 60) {
            Check.due(when + "run()", unit.run(), plain.run());
        } else if (kind < 75) {
            set(when);
        } else if (kind < 99) {
            look(when);
        } else if (row.below(4) == 0) {
            unit.clear();
            plain.clear();
        }
    }

    private void emit(String when) {
        int op = nearly(13);
        int x = nearly(4);
        int y = op == SSET || op == SLEN ? anyInt() : nearly(4);
        int z = op <= VMULS || op == SADD ? nearly(4) : anyInt();
        String call = when + "emit(" + op + ", " + x + ", " + y + ", " + z + ")";
        Check.due(call, unit.emit(op, x, y, z), plain.emit(op, x, y, z));
    }

    private void set(String when) {
        int value = anyInt();
        if (row.below(2) == 0) {
            int cell = nearly(64);
            Check.due(when + "setMemory(" + cell + ")", unit.setMemory(cell, value), plain.setMemory(cell, value));
        } else {
            int v = nearly(4);
            int i = nearly(16);
            boolean due = plain.setElement(v, i, value);
            Check.due(when + "setElement(" + v + ", " + i + ")", unit.setElement(v, i, value), due);
        }
    }

    private void look(String when) {
        int kind = row.below(8);
        if (kind == 0) {
            Check.due(when + "vectorLength()", unit.vectorLength(), plain.vectorLength());
        } else if (kind < 3) {
            int s = nearly(4);
            Check.due(when + "scalar(" + s + ")", unit.scalar(s), plain.scalar(s));
        } else if (kind < 5) {
            int cell = nearly(64);
            Check.due(when + "memory(" + cell + ")", unit.memory(cell), plain.memory(cell));
        } else {
            int v = nearly(4);
            int i = nearly(16);
            Check.due(when + "element(" + v + ", " + i + ")", unit.element(v, i), plain.element(v, i));
        }
    }
}
