/** Promise 10: clear. */
public final class ClearTest {
    private static final int[] NEW = new PlainReading().state();

    public static void main(String[] args) {
        for (int lanes = 1; lanes <= 4; lanes++) {
            clearsState(new ChainedVectorUnit(lanes, lanes + 1));
            clearsTheProgram(new ChainedVectorUnit(lanes, lanes));
            canBeUsedAgain(new ChainedVectorUnit(lanes, 6 - lanes));
        }
        Check.end();
    }

    private static void clearsState(ChainedVectorUnit unit) {
        State.fill(unit);
        State.same("filled", State.of(unit), State.filled());
        unit.clear();
        State.same("after clear", State.of(unit), NEW);
    }

    private static void clearsTheProgram(ChainedVectorUnit unit) {
        for (int n = 1; n <= 16; n++) {
            unit.emit(ChainedVectorUnit.SSET, 1, n, 0);
        }
        unit.clear();
        Check.due("run() after clear", unit.run(), 0);
        State.same("after clear and run", State.of(unit), NEW);
        Check.due("emit after clear", unit.emit(ChainedVectorUnit.SSET, 0, 3, 0), 1);
        unit.clear();
        Check.due("emit after a second clear", unit.emit(ChainedVectorUnit.SSET, 0, 3, 0), 1);
    }

    private static void canBeUsedAgain(ChainedVectorUnit unit) {
        unit.clear();
        State.same("clear of a new one", State.of(unit), NEW);
        Check.due("emit", unit.emit(ChainedVectorUnit.SSET, 0, 3, 0), 1);
        Check.due("emit of a vector instruction", unit.emit(ChainedVectorUnit.VADDS, 0, 0, 0), 2);
        Check.due("emit of a sum", unit.emit(ChainedVectorUnit.VSUM, 1, 0, 0), 3);
        Check.due("run() of those", unit.run(), 3);
        Check.due("scalar(1)", unit.scalar(1), 48);
        unit.clear();
        State.same("after a second clear", State.of(unit), NEW);
    }
}
