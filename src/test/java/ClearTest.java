/** Promise 10: clear. */
public final class ClearTest implements Ops {
    private static final int[] NEW = new PlainReading().state();

    public static void main(String[] args) {
        Check.onEach("Makes everything as in the beginning: registers and cells are 0", ClearTest::clearsState);
        Check.onEach("Makes everything as in the beginning: L is 16", ClearTest::clearsTheLength);
        Check.onEach("Makes everything as in the beginning: the program is empty", ClearTest::clearsTheProgram);
        Check.onEach("Makes everything as in the beginning: a full program too", ClearTest::clearsAFullProgram);
        Check.onEach("Makes everything as in the beginning: a new object stays as it is", ClearTest::clearsANewOne);
        Check.onEach("Makes everything as in the beginning: it runs as a new one", ClearTest::runsAsANewOne);
        Check.end();
    }

    private static void clearsState(ChainedVectorUnit unit) {
        State.fill(unit);
        State.same("filled", State.of(unit), State.filled());
        unit.clear();
        State.same("after clear", State.of(unit), NEW);
    }

    private static void clearsTheLength(ChainedVectorUnit unit) {
        for (int length = 0; length <= 16; length++) {
            Drive.setLength(unit, length);
            unit.clear();
            Check.due("vectorLength() after clear at L = " + length, unit.vectorLength(), 16);
        }
        Drive.program(unit, Drive.in(SSET, 0, 1, 0), Drive.in(VADDS, 0, 0, 0));
        Drive.vectorIs("all elements are reached", unit, 0, i -> 1);
    }

    private static void clearsTheProgram(ChainedVectorUnit unit) {
        for (int size = 0; size < 16; size++) {
            for (int n = 1; n <= size; n++) {
                unit.emit(SSET, 1, n, 0);
            }
            unit.clear();
            Check.due("run() after clear of " + size, unit.run(), 0);
            Check.due("scalar(1)", unit.scalar(1), 0);
        }
        unit.emit(SSET, 1, 9, 0);
        unit.clear();
        Check.due("emit after clear", unit.emit(SSET, 2, 3, 0), 1);
        Check.due("run()", unit.run(), 1);
        Check.due("the one before clear did not run", unit.scalar(1), 0);
        Check.due("the one after clear ran", unit.scalar(2), 3);
    }

    private static void clearsAFullProgram(ChainedVectorUnit unit) {
        for (int n = 1; n <= 17; n++) {
            unit.emit(SSET, 1, n, 0);
        }
        unit.clear();
        for (int n = 1; n <= 16; n++) {
            Check.due("emit number " + n + " after clear", unit.emit(SADD, 0, 0, 0), n);
        }
        Check.due("emit number 17 after clear", unit.emit(SADD, 0, 0, 0), FULL);
        unit.clear();
        Check.due("run() after a second clear", unit.run(), 0);
        State.same("after clear and run", State.of(unit), NEW);
    }

    private static void clearsANewOne(ChainedVectorUnit unit) {
        unit.clear();
        unit.clear();
        State.same("clear of a new one", State.of(unit), NEW);
        Check.due("run()", unit.run(), 0);
    }

    private static void runsAsANewOne(ChainedVectorUnit unit) {
        for (int round = 0; round < 10; round++) {
            Drive.program(unit, Drive.in(SSET, 0, 3, 0), Drive.in(VADDS, 0, 0, 0), Drive.in(VSUM, 1, 0, 0),
                Drive.in(VSTORE, 0, 1, 1), Drive.in(SSET, 2, 4, 0), Drive.in(SLEN, 2, 0, 0), Drive.in(VLOAD, 3, 1, 1));
            Check.due("the sum", unit.scalar(1), 48);
            Check.due("the first stored cell", unit.memory(48), 3);
            Check.due("the cell behind the last", unit.memory(0), 0);
            Check.due("the last loaded element", unit.element(3, 3), 3);
            Check.due("the element behind it", unit.element(3, 4), 0);
            unit.emit(VADD, 0, 0, 0);
            unit.clear();
        }
        State.same("after the last clear", State.of(unit), NEW);
    }
}
