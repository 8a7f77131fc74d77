/** Promise 1: a new object, for lanes and delays inside, at and outside their ranges. */
public final class NewObjectTest {
    private static final int[] SIZES = {Integer.MIN_VALUE, -1, 0, 1, 2, 3, 4, 5, 6, 7, 1000, 1000000, Integer.MAX_VALUE};

    public static void main(String[] args) {
        for (int lanes : SIZES) {
            for (int delay : SIZES) {
                newObject("new(" + lanes + ", " + delay + ")", lanes, delay);
            }
        }
        twoObjectsShareNothing();
        Check.end();
    }

    private static void newObject(String when, int lanes, int delay) {
        ChainedVectorUnit unit = new ChainedVectorUnit(lanes, delay);
        State.same(when, State.of(unit), new PlainReading().state());
        Check.due(when + ": vectorLength()", unit.vectorLength(), 16);
        Check.due(when + ": run() of the empty program", unit.run(), 0);
        Check.due(when + ": the first emit", unit.emit(ChainedVectorUnit.SSET, 2, 9, 0), 1);
        Check.due(when + ": a vector emit", unit.emit(ChainedVectorUnit.VADDS, 1, 0, 2), 2);
        Check.due(when + ": a sum emit", unit.emit(ChainedVectorUnit.VSUM, 3, 1, 0), 3);
        Check.due(when + ": run()", unit.run(), 3);
        Check.due(when + ": the sum", unit.scalar(3), 144);
    }

    private static void twoObjectsShareNothing() {
        ChainedVectorUnit one = new ChainedVectorUnit(2, 2);
        ChainedVectorUnit other = new ChainedVectorUnit(2, 2);
        State.fill(one);
        one.emit(ChainedVectorUnit.SSET, 0, 1, 0);
        State.same("beside a filled one", State.of(other), new PlainReading().state());
        Check.due("run() beside one with a program", other.run(), 0);
    }
}
