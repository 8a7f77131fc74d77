/**
 * Looks at all that a unit shows, and fills a unit with values that are all different. Both take
 * more than 130 calls of the 512 that an object is promised to answer.
 */
final class State {
    static final int VECTORS = 4;
    static final int ELEMENTS = 16;
    static final int SCALARS = 4;
    static final int CELLS = 64;
    static final int SCALAR_0 = VECTORS * ELEMENTS;
    static final int CELL_0 = SCALAR_0 + SCALARS;
    static final int LENGTH = CELL_0 + CELLS;
    static final int SIZE = LENGTH + 1;

    private State() {
    }

    static int[] of(ChainedVectorUnit unit) {
        int[] seen = new int[SIZE];
        int at = 0;
        for (int v = 0; v < VECTORS; v++) {
            for (int i = 0; i < ELEMENTS; i++) {
                seen[at++] = unit.element(v, i);
            }
        }
        for (int s = 0; s < SCALARS; s++) {
            seen[at++] = unit.scalar(s);
        }
        for (int cell = 0; cell < CELLS; cell++) {
            seen[at++] = unit.memory(cell);
        }
        seen[at] = unit.vectorLength();
        return seen;
    }

    static void same(String when, int[] got, int[] want) {
        for (int at = 0; at < SIZE; at++) {
            Check.due(when + ": " + nameOf(at), got[at], want[at]);
        }
    }

    /** Vectors, cells and scalars all hold something, and the vector length is 5. */
    static void fill(ChainedVectorUnit unit) {
        for (int v = 0; v < VECTORS; v++) {
            for (int i = 0; i < ELEMENTS; i++) {
                unit.setElement(v, i, 1000 + 100 * v + i);
            }
        }
        for (int cell = 0; cell < CELLS; cell++) {
            unit.setMemory(cell, -1 - cell);
        }
        unit.emit(ChainedVectorUnit.SSET, 0, 5, 0);
        unit.emit(ChainedVectorUnit.SLEN, 0, 0, 0);
        for (int s = 0; s < SCALARS; s++) {
            unit.emit(ChainedVectorUnit.SSET, s, 70 + s, 0);
        }
        unit.run();
    }

    /** What a unit shows after fill. */
    static int[] filled() {
        PlainReading plain = new PlainReading();
        for (int at = 0; at < VECTORS * ELEMENTS; at++) {
            plain.vectors[at / ELEMENTS][at % ELEMENTS] = 1000 + 100 * (at / ELEMENTS) + at % ELEMENTS;
        }
        for (int cell = 0; cell < CELLS; cell++) {
            plain.cells[cell] = -1 - cell;
        }
        for (int s = 0; s < SCALARS; s++) {
            plain.scalars[s] = 70 + s;
        }
        plain.length = 5;
        return plain.state();
    }

    private static String nameOf(int at) {
        if (at < VECTORS * ELEMENTS) {
            return "element(" + at / ELEMENTS + ", " + at % ELEMENTS + ")";
        }
        int rest = at - VECTORS * ELEMENTS;
        if (rest < SCALARS) {
            return "scalar(" + rest + ")";
        }
        rest -= SCALARS;
        return rest < CELLS ? "memory(" + rest + ")" : "vectorLength()";
    }
}
