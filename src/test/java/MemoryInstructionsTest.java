/** "Terms", the instructions over the memory: VLOAD, VSTORE and VGATHER. */
public final class MemoryInstructionsTest implements Ops {
    private static final int[] BASES = {0, 1, 48, 49, 63, 64, -1, -63, -64, -65, 1000, MAX - 7, MAX, MIN, MIN + 5};
    private static final int[] STEPS = {1, 3, 16, 63, 64, 65, -1, -2, -63, 0};
    private static final int[] HUGE_STEPS = {MAX, MIN, MIN + 1, MAX / 2 + 2, 0x10000001, 0x7FFFFFC1, -0x40000003};
    private static final int[] INDICES =
        {0, 1, 62, 63, 64, 65, 127, 128, -1, -2, -63, -64, -65, MAX, MIN, MIN + 9};

    public static void main(String[] args) {
        Check.onEachSize("VLOAD: element i of d becomes memory cell (scalar s + i * k) & 63",
            (lanes, delay) -> loads(lanes, delay, STEPS));
        Check.onEachSize("VLOAD: k any int, i * k wraps",
            (lanes, delay) -> loads(lanes, delay, HUGE_STEPS));
        Check.onEachSize("VSTORE: memory cell (scalar s + i * k) & 63 becomes element i of d",
            (lanes, delay) -> stores(lanes, delay, STEPS));
        Check.onEachSize("VSTORE: k any int, i * k wraps",
            (lanes, delay) -> stores(lanes, delay, HUGE_STEPS));
        Check.onEach("VGATHER: element i of d becomes memory cell (element i of a) & 63",
            MemoryInstructionsTest::gathers);
        Check.onEachSize("VLOAD d s k: every d and every s", MemoryInstructionsTest::loadsEverywhere);
        Check.onEachSize("VSTORE d s k: every d and every s", MemoryInstructionsTest::storesEverywhere);
        Check.onEachSize("VGATHER d a: every d and every a", MemoryInstructionsTest::gathersEverywhere);
        Check.end();
    }

    // 64 divides what an int wraps at, so reckoning in longs must lead to the same cell.
    private static int cellOf(int base, int step, int i) {
        return (int) Math.floorMod((long) base + (long) i * step, 64L);
    }

    private static void loads(int lanes, int delay, int[] steps) {
        for (int base : BASES) {
            ChainedVectorUnit unit = new ChainedVectorUnit(lanes, delay);
            Drive.setCells(unit, cell -> 500 + cell);
            for (int step : steps) {
                Drive.program(unit, Drive.in(SSET, 2, base, 0), Drive.in(VLOAD, 1, 2, step));
                Drive.vectorIs("load from " + base + " by " + step, unit, 1, i -> 500 + cellOf(base, step, i));
            }
            Drive.cellsAre("loads from " + base + " leave the memory", unit, cell -> 500 + cell);
        }
    }

    private static void stores(int lanes, int delay, int[] steps) {
        for (int base : BASES) {
            for (int step : steps) {
                store(new ChainedVectorUnit(lanes, delay), base, step);
            }
        }
    }

    private static void store(ChainedVectorUnit unit, int base, int step) {
        String when = "store from " + base + " by " + step;
        int[] due = new int[64];
        for (int i = 0; i < 16; i++) {
            due[cellOf(base, step, i)] = 900 + i;
        }
        Drive.setVector(unit, 3, i -> 900 + i);
        Drive.program(unit, Drive.in(SSET, 1, base, 0), Drive.in(VSTORE, 3, 1, step));
        Drive.cellsAre(when, unit, cell -> due[cell]);
        Drive.vectorIs(when + " leaves the register", unit, 3, i -> 900 + i);
        Check.due(when + " leaves the scalar", unit.scalar(1), base);
    }

    private static void gathers(ChainedVectorUnit unit) {
        Drive.setCells(unit, cell -> 500 + cell);
        Drive.setVector(unit, 0, i -> INDICES[i]);
        Drive.one(unit, VGATHER, 3, 0, 0);
        Drive.vectorIs("gathered", unit, 3, i -> 500 + Math.floorMod(INDICES[i], 64));
        Drive.vectorIs("the register of the cell numbers stays", unit, 0, i -> INDICES[i]);
        Drive.cellsAre("a gather leaves the memory", unit, cell -> 500 + cell);
    }

    private static void loadsEverywhere(int lanes, int delay) {
        ChainedVectorUnit unit = new ChainedVectorUnit(lanes, delay);
        Drive.setCells(unit, cell -> 500 + cell);
        setScalars(unit);
        for (int d = 0; d < 4; d++) {
            for (int s = 0; s < 4; s++) {
                int base = 10 * s;
                Drive.one(unit, VLOAD, d, s, 2);
                Drive.vectorIs("VLOAD " + d + " " + s + " 2", unit, d, i -> 500 + base + 2 * i);
            }
        }
    }

    private static void storesEverywhere(int lanes, int delay) {
        for (int d = 0; d < 4; d++) {
            ChainedVectorUnit unit = new ChainedVectorUnit(lanes, delay);
            setScalars(unit);
            for (int s = 0; s < 4; s++) {
                int mark = 100 * (s + 1);
                Drive.setVector(unit, d, i -> mark + i);
                Drive.one(unit, VSTORE, d, s, 2);
                for (int i = 0; i < 16; i++) {
                    Check.due("VSTORE " + d + " " + s + " 2", unit.memory(10 * s + 2 * i), mark + i);
                }
            }
        }
    }

    private static void gathersEverywhere(int lanes, int delay) {
        for (int d = 0; d < 4; d++) {
            for (int a = 0; a < 4; a++) {
                ChainedVectorUnit unit = new ChainedVectorUnit(lanes, delay);
                Drive.setCells(unit, cell -> 500 + cell);
                Drive.setVector(unit, a, i -> 3 * i);
                Drive.one(unit, VGATHER, d, a, 0);
                Drive.vectorIs("VGATHER " + d + " " + a, unit, d, i -> 500 + 3 * i);
            }
        }
    }

    private static void setScalars(ChainedVectorUnit unit) {
        Drive.program(unit, Drive.in(SSET, 1, 10, 0), Drive.in(SSET, 2, 20, 0), Drive.in(SSET, 3, 30, 0));
    }
}
