/** Promises 6 and 7: scalar and vectorLength. */
public final class ScalarTest implements Ops {
    private static final int[] NO_REGISTERS = {-1, -2, -4, 4, 5, 8, 64, 256, MIN, MIN + 3, MAX};

    public static void main(String[] args) {
        Check.onEach("A scalar register", ScalarTest::everyScalar);
        Check.onEach("0 for s outside 0..3", ScalarTest::zeroOutside);
        Check.onEach("scalar changes nothing", ScalarTest::lookingChangesNothing);
        Check.onEach("The vector length: 0 to 16", ScalarTest::everyLength);
        Check.onEach("The vector length: only SLEN changes it", ScalarTest::onlySlenChangesIt);
        Check.end();
    }

    private static void setAll(ChainedVectorUnit unit) {
        Drive.program(unit, Drive.in(SSET, 0, MIN, 0), Drive.in(SSET, 1, -1, 0), Drive.in(SSET, 2, 5, 0),
            Drive.in(SSET, 3, MAX, 0));
    }

    private static void everyScalar(ChainedVectorUnit unit) {
        setAll(unit);
        Check.due("scalar(0)", unit.scalar(0), MIN);
        Check.due("scalar(1)", unit.scalar(1), -1);
        Check.due("scalar(2)", unit.scalar(2), 5);
        Check.due("scalar(3)", unit.scalar(3), MAX);
    }

    private static void zeroOutside(ChainedVectorUnit unit) {
        setAll(unit);
        for (int s : NO_REGISTERS) {
            Check.due("scalar(" + s + ")", unit.scalar(s), 0);
        }
    }

    private static void lookingChangesNothing(ChainedVectorUnit unit) {
        State.fill(unit);
        unit.scalar(3);
        unit.scalar(4);
        unit.scalar(-1);
        unit.vectorLength();
        State.same("after looking", State.of(unit), State.filled());
        Check.due("run()", unit.run(), 0);
    }

    private static void everyLength(ChainedVectorUnit unit) {
        Check.due("vectorLength() at first", unit.vectorLength(), 16);
        for (int length = 16; length >= 0; length--) {
            Drive.setLength(unit, length);
            Check.due("vectorLength()", unit.vectorLength(), length);
            Check.due("vectorLength() again", unit.vectorLength(), length);
        }
    }

    private static void onlySlenChangesIt(ChainedVectorUnit unit) {
        Drive.setLength(unit, 6);
        for (int op = VADD; op <= SADD; op++) {
            Drive.one(unit, op, 3, 2, 1);
            Check.due("vectorLength() after op " + op, unit.vectorLength(), 6);
        }
        unit.setElement(0, 0, 9);
        unit.setMemory(0, 9);
        Check.due("a refused emit", unit.emit(SLEN, 4, 0, 0), BAD);
        Check.due("run() of nothing", unit.run(), 0);
        Check.due("vectorLength() after other calls", unit.vectorLength(), 6);
        unit.emit(SSET, 2, 11, 0);
        unit.emit(SLEN, 2, 0, 0);
        Check.due("vectorLength() before run", unit.vectorLength(), 6);
        Check.due("run()", unit.run(), 2);
        Check.due("vectorLength() after run", unit.vectorLength(), 11);
    }
}
