/** Promise 3: run. */
public final class RunTest implements Ops {
    public static void main(String[] args) {
        Check.onEach("Runs the program: not before run is called", RunTest::notBefore);
        Check.onEach("Runs the program: on what stands there when run is called", RunTest::onWhatStandsThere);
        Check.onEach("Runs the program: an empty one changes nothing", RunTest::emptyChangesNothing);
        Check.onEach("and then makes it empty", RunTest::makesItEmpty);
        Check.onEach("and then makes it empty: a full one", RunTest::makesAFullOneEmpty);
        Check.onEach("Answers the number of instructions run: 0 to 16", RunTest::answersTheNumber);
        Check.onEach("Answers the number of instructions run: refused ones are not among them", RunTest::countsNoRefused);
        Check.onEach("What a run leaves is there in the next run", RunTest::goesOn);
        Check.end();
    }

    private static void notBefore(ChainedVectorUnit unit) {
        Drive.setVector(unit, 1, i -> 7);
        unit.emit(SSET, 0, 5, 0);
        unit.emit(VADDS, 0, 1, 0);
        unit.emit(VSTORE, 0, 1, 1);
        unit.emit(SLEN, 0, 0, 0);
        Check.due("scalar(0) before run", unit.scalar(0), 0);
        Check.due("vectorLength() before run", unit.vectorLength(), 16);
        Drive.vectorIs("before run", unit, 0, i -> 0);
        Drive.cellsAre("before run", unit, cell -> 0);
        Check.due("run()", unit.run(), 4);
        Check.due("scalar(0) after run", unit.scalar(0), 5);
        Check.due("vectorLength() after run", unit.vectorLength(), 5);
        Drive.vectorIs("after run", unit, 0, i -> 12);
        Drive.cellsAre("after run", unit, cell -> cell < 16 ? 12 : 0);
    }

    private static void onWhatStandsThere(ChainedVectorUnit unit) {
        unit.setElement(0, 0, 1);
        unit.setMemory(3, 2);
        unit.emit(VADD, 1, 0, 0);
        unit.emit(VLOAD, 2, 0, 1);
        unit.setElement(0, 0, 30);
        unit.setMemory(3, 40);
        Check.due("run()", unit.run(), 2);
        Check.due("the element set after emit", unit.element(1, 0), 60);
        Check.due("the cell set after emit", unit.element(2, 3), 40);
    }

    private static void emptyChangesNothing(ChainedVectorUnit unit) {
        State.fill(unit);
        Check.due("run() of nothing", unit.run(), 0);
        Check.due("run() of nothing again", unit.run(), 0);
        State.same("after runs of nothing", State.of(unit), State.filled());
    }

    private static void makesItEmpty(ChainedVectorUnit unit) {
        Drive.setScalar(unit, 0, 1);
        for (int round = 1; round <= 3; round++) {
            Check.due("emit", unit.emit(SADD, 0, 0, 0), 1);
            Check.due("run() of one", unit.run(), 1);
            Check.due("doubled once", unit.scalar(0), 1 << round);
            Check.due("run() again", unit.run(), 0);
            Check.due("still doubled once", unit.scalar(0), 1 << round);
        }
        Check.due("emit of another", unit.emit(SSET, 1, 9, 0), 1);
        Check.due("run() of the other", unit.run(), 1);
        Check.due("what ran before did not run again", unit.scalar(0), 8);
    }

    private static void makesAFullOneEmpty(ChainedVectorUnit unit) {
        Drive.setScalar(unit, 0, 1);
        for (int round = 1; round <= 2; round++) {
            for (int n = 1; n <= 16; n++) {
                Check.due("emit number " + n, unit.emit(SADD, 0, 0, n == 16 ? 1 : 0), n);
            }
            Check.due("run() of 16", unit.run(), 16);
            Check.due("run() again", unit.run(), 0);
            Check.due("doubled 15 times in a round", unit.scalar(0), 1 << 15 * round);
        }
    }

    private static void answersTheNumber(ChainedVectorUnit unit) {
        for (int size = 0; size <= 16; size++) {
            for (int n = 1; n <= size; n++) {
                unit.emit((size + n) % 13, n % 4, (n + 1) % 4, (n + 2) % 4);
            }
            Check.due("run() of " + size, unit.run(), size);
        }
    }

    private static void countsNoRefused(ChainedVectorUnit unit) {
        unit.emit(13, 0, 0, 0);
        unit.emit(VADD, 0, 0, 4);
        Check.due("run() of refused ones alone", unit.run(), 0);
        unit.emit(SSET, 0, 5, 0);
        unit.emit(SSET, 4, 6, 0);
        unit.emit(SADD, 1, 0, 0);
        Check.due("run() of two and a refused one", unit.run(), 2);
        Check.due("scalar(1)", unit.scalar(1), 10);
        for (int n = 1; n <= 20; n++) {
            unit.emit(SADD, 1, 0, 0);
        }
        Check.due("run() of 16 and four refused ones", unit.run(), 16);
    }

    private static void goesOn(ChainedVectorUnit unit) {
        Drive.program(unit, Drive.in(SSET, 0, 6, 0), Drive.in(SLEN, 0, 0, 0));
        Drive.program(unit, Drive.in(VADDS, 2, 1, 0));
        Drive.program(unit, Drive.in(VSTORE, 2, 1, 2), Drive.in(VSUM, 2, 2, 0));
        Drive.program(unit, Drive.in(VLOAD, 3, 1, 1), Drive.in(SADD, 3, 2, 0));
        Check.due("vectorLength()", unit.vectorLength(), 6);
        Drive.vectorIs("added", unit, 2, i -> i < 6 ? 6 : 0);
        Drive.vectorIs("stored and loaded", unit, 3, i -> i < 6 && i % 2 == 0 ? 6 : 0);
        Check.due("the sum", unit.scalar(2), 36);
        Check.due("the sum and 6", unit.scalar(3), 42);
    }
}
