/** Promise 11: a refused call changes nothing, neither the state nor the program. */
public final class RefusalTest {
    public static void main(String[] args) {
        badEmits();
        fullEmits();
        refusedSets();
        Check.end();
    }

    private static ChainedVectorUnit filled() {
        ChainedVectorUnit unit = new ChainedVectorUnit(3, 4);
        State.fill(unit);
        return unit;
    }

    private static void badEmits() {
        ChainedVectorUnit unit = filled();
        int[] before = State.filled();
        Check.due("emit", unit.emit(ChainedVectorUnit.SADD, 0, 1, 2), 1);
        Check.due("a bad op", unit.emit(13, 0, 0, 0), ChainedVectorUnit.BAD);
        Check.due("a bad x", unit.emit(ChainedVectorUnit.SSET, 4, 0, 0), ChainedVectorUnit.BAD);
        Check.due("a bad y", unit.emit(ChainedVectorUnit.VLOAD, 0, -1, 0), ChainedVectorUnit.BAD);
        Check.due("a bad z", unit.emit(ChainedVectorUnit.VADDS, 0, 0, 4), ChainedVectorUnit.BAD);
        State.same("after bad emits", State.of(unit), before);
        Check.due("the next emit", unit.emit(ChainedVectorUnit.SADD, 3, 0, 0), 2);
        Check.due("run()", unit.run(), 2);
        before[64] = 71 + 72;
        before[67] = 2 * (71 + 72);
        State.same("after the run", State.of(unit), before);
    }

    private static void fullEmits() {
        ChainedVectorUnit unit = filled();
        int[] before = State.filled();
        for (int n = 1; n <= 16; n++) {
            Check.due("emit", unit.emit(ChainedVectorUnit.SSET, n % 4, n, 0), n);
        }
        for (int n = 0; n < 4; n++) {
            Check.due("emit to a full program", unit.emit(ChainedVectorUnit.VSUM, n, n, 0), ChainedVectorUnit.FULL);
        }
        State.same("after full emits", State.of(unit), before);
        Check.due("run()", unit.run(), 16);
        before[64] = 16;
        before[65] = 13;
        before[66] = 14;
        before[67] = 15;
        State.same("after the run", State.of(unit), before);
    }

    private static void refusedSets() {
        ChainedVectorUnit unit = filled();
        int[] before = State.filled();
        unit.emit(ChainedVectorUnit.SSET, 2, 8, 0);
        Check.due("setElement(4, 0)", unit.setElement(4, 0, 1), false);
        Check.due("setElement(0, 16)", unit.setElement(0, 16, 1), false);
        Check.due("setElement(1, -1)", unit.setElement(1, -1, 1), false);
        Check.due("setMemory(64)", unit.setMemory(64, 1), false);
        Check.due("setMemory(-1)", unit.setMemory(-1, 1), false);
        State.same("after refused sets", State.of(unit), before);
        Check.due("run()", unit.run(), 1);
        before[66] = 8;
        State.same("after the run", State.of(unit), before);
    }
}
