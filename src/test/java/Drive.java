import java.util.function.IntUnaryOperator;

/** Short ways to drive a unit and to look at a whole vector or the whole memory. */
final class Drive implements Ops {
    private Drive() {
    }

    /** Feeds and runs a program; every instruction is {op, x, y, z}. */
    static void program(ChainedVectorUnit unit, int[]... instructions) {
        for (int n = 0; n < instructions.length; n++) {
            int[] at = instructions[n];
            Check.due("emit of op " + at[0], unit.emit(at[0], at[1], at[2], at[3]), n + 1);
        }
        Check.due("run()", unit.run(), instructions.length);
    }

    static void one(ChainedVectorUnit unit, int op, int x, int y, int z) {
        program(unit, in(op, x, y, z));
    }

    static int[] in(int op, int x, int y, int z) {
        return new int[] {op, x, y, z};
    }

    static void setScalar(ChainedVectorUnit unit, int s, int value) {
        one(unit, SSET, s, value, 0);
    }

    /** Sets the vector length, and scalar 3 on the way. */
    static void setLength(ChainedVectorUnit unit, int length) {
        program(unit, in(SSET, 3, length, 0), in(SLEN, 3, 0, 0));
    }

    static void setVector(ChainedVectorUnit unit, int v, IntUnaryOperator valueOf) {
        for (int i = 0; i < 16; i++) {
            unit.setElement(v, i, valueOf.applyAsInt(i));
        }
    }

    static void setCells(ChainedVectorUnit unit, IntUnaryOperator valueOf) {
        for (int cell = 0; cell < 64; cell++) {
            unit.setMemory(cell, valueOf.applyAsInt(cell));
        }
    }

    static void vectorIs(String when, ChainedVectorUnit unit, int v, IntUnaryOperator valueOf) {
        for (int i = 0; i < 16; i++) {
            Check.due(when + ": element(" + v + ", " + i + ")", unit.element(v, i), valueOf.applyAsInt(i));
        }
    }

    static void cellsAre(String when, ChainedVectorUnit unit, IntUnaryOperator valueOf) {
        for (int cell = 0; cell < 64; cell++) {
            Check.due(when + ": memory(" + cell + ")", unit.memory(cell), valueOf.applyAsInt(cell));
        }
    }
}
