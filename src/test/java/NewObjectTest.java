/** Promise 1: a new object, for lanes and delays inside, at and outside their ranges. */
public final class NewObjectTest implements Ops {
    private static final int[] SIZES =
        {MIN, MIN + 1, -1000000, -1, 0, 1, 2, 3, 4, 5, 6, 7, 8, 16, 64, 1000, 1000000, MAX - 1, MAX};

    public static void main(String[] args) {
        Check.once("lanes, clamped into 1..4", NewObjectTest::lanesAreClamped);
        Check.once("delay, clamped into 1..5", NewObjectTest::delayIsClamped);
        Check.once("lanes and delay show in no answer", NewObjectTest::sizesShowInNoAnswer);
        Check.onEach("All registers and cells are 0", NewObjectTest::allIsZero);
        Check.onEach("L is 16", NewObjectTest::lengthIsSixteen);
        Check.onEach("the program is empty", NewObjectTest::programIsEmpty);
        Check.once("A new object: no other object plays a part", NewObjectTest::objectsShareNothing);
        Check.end();
    }

    private static void lanesAreClamped() {
        for (int lanes : SIZES) {
            for (int delay = 1; delay <= 5; delay++) {
                workIsDone("new(" + lanes + ", " + delay + ")", new ChainedVectorUnit(lanes, delay));
            }
        }
    }

    private static void delayIsClamped() {
        for (int delay : SIZES) {
            for (int lanes = 1; lanes <= 4; lanes++) {
                workIsDone("new(" + lanes + ", " + delay + ")", new ChainedVectorUnit(lanes, delay));
            }
        }
    }

    private static void sizesShowInNoAnswer() {
        for (int lanes : SIZES) {
            for (int delay : SIZES) {
                workIsDone("new(" + lanes + ", " + delay + ")", new ChainedVectorUnit(lanes, delay));
            }
        }
    }

    /** A full program with a long chain, a sum, a store that writes cells twice and a short length. */
    private static void workIsDone(String when, ChainedVectorUnit unit) {
        int[][] work = {
            Drive.in(SSET, 0, 3, 0), Drive.in(VADDS, 0, 0, 0), Drive.in(VLOAD, 1, 0, 1), Drive.in(VMUL, 2, 0, 1),
            Drive.in(VADD, 2, 2, 0), Drive.in(VSUM, 1, 2, 0), Drive.in(VADDS, 3, 2, 1), Drive.in(VSTORE, 3, 0, 16),
            Drive.in(VGATHER, 1, 0, 0), Drive.in(SSET, 2, 7, 0), Drive.in(SLEN, 2, 0, 0), Drive.in(VSUB, 3, 1, 0),
            Drive.in(VMULS, 0, 3, 2), Drive.in(VMAX, 0, 0, 1), Drive.in(VSUM, 3, 0, 0), Drive.in(SADD, 3, 3, 1)};
        PlainReading plain = new PlainReading();
        for (int cell = 0; cell < 64; cell++) {
            plain.cells[cell] = cell * cell - 9;
        }
        for (int[] at : work) {
            plain.step(at[0], at[1], at[2], at[3]);
        }
        Drive.setCells(unit, cell -> cell * cell - 9);
        Drive.program(unit, work);
        State.same(when, State.of(unit), plain.state());
    }

    private static void allIsZero(ChainedVectorUnit unit) {
        for (int v = 0; v < 4; v++) {
            Drive.vectorIs("new", unit, v, i -> 0);
        }
        for (int s = 0; s < 4; s++) {
            Check.due("scalar(" + s + ")", unit.scalar(s), 0);
        }
        Drive.cellsAre("new", unit, cell -> 0);
    }

    private static void lengthIsSixteen(ChainedVectorUnit unit) {
        Check.due("vectorLength()", unit.vectorLength(), 16);
        Drive.program(unit, Drive.in(SSET, 1, 4, 0), Drive.in(VADDS, 0, 0, 1), Drive.in(VSUM, 2, 0, 0));
        Drive.vectorIs("all elements are reached", unit, 0, i -> 4);
        Check.due("the sum of all elements", unit.scalar(2), 64);
    }

    private static void programIsEmpty(ChainedVectorUnit unit) {
        Check.due("run() of nothing", unit.run(), 0);
        State.same("after a run of nothing", State.of(unit), new PlainReading().state());
        for (int n = 1; n <= 16; n++) {
            Check.due("emit number " + n, unit.emit(SSET, 0, n, 0), n);
        }
        Check.due("run()", unit.run(), 16);
    }

    private static void objectsShareNothing() {
        ChainedVectorUnit one = new ChainedVectorUnit(2, 2);
        ChainedVectorUnit other = new ChainedVectorUnit(2, 2);
        State.fill(one);
        one.emit(SSET, 0, 1, 0);
        State.same("beside a filled one", State.of(other), new PlainReading().state());
        Check.due("run() beside one with a program", other.run(), 0);
        State.same("after one with a program", State.of(new ChainedVectorUnit(4, 5)), new PlainReading().state());
        other.clear();
        Check.due("run() beside a cleared one", one.run(), 1);
    }
}
