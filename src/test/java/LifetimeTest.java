/** "What it is": an object answers for 512 calls, and no call throws even after them. */
public final class LifetimeTest implements Ops {
    private static final int[] STRANGE = {MIN, -1, 0, 3, 4, 12, 13, 15, 16, 63, 64, MAX};

    public static void main(String[] args) {
        Check.onEach("An object is used for at most 512 calls: all 512 are answered", LifetimeTest::answersEveryCall);
        Check.once("An object is used for at most 512 calls: the last may be any call", LifetimeTest::answersAnyLastCall);
        Check.onEach("What later calls answer is free: they only must not throw", LifetimeTest::endsAfterwards);
        Check.end();
    }

    private static void answersEveryCall(ChainedVectorUnit unit) {
        for (int round = 0; round < 64; round++) {
            eightCalls(unit, round);
        }
    }

    private static void eightCalls(ChainedVectorUnit unit, int round) {
        String when = "calls from " + (8 * round + 1) + " on: ";
        Check.due(when + "setMemory", unit.setMemory(round, round + 1), true);
        Check.due(when + "setElement", unit.setElement(round % 3, round % 16, -round), true);
        Check.due(when + "emit of SSET", unit.emit(SSET, 0, round, 0), 1);
        Check.due(when + "emit of VLOAD", unit.emit(VLOAD, 3, 0, 0), 2);
        Check.due(when + "emit of VSUM", unit.emit(VSUM, 1, 3, 0), 3);
        Check.due(when + "run", unit.run(), 3);
        Check.due(when + "scalar", unit.scalar(1), 16 * (round + 1));
        Check.due(when + "element", unit.element(round % 3, round % 16), -round);
    }

    /** Six calls of setting up, so that the last answer is one that was worked for. */
    private static ChainedVectorUnit after511Calls() {
        ChainedVectorUnit unit = new ChainedVectorUnit(2, 3);
        unit.setElement(3, 15, 7);
        unit.setMemory(63, 8);
        unit.emit(SSET, 3, 9, 0);
        unit.emit(SLEN, 3, 0, 0);
        unit.run();
        unit.emit(SADD, 3, 3, 3);
        for (int call = 7; call <= 511; call++) {
            unit.vectorLength();
        }
        return unit;
    }

    private static void answersAnyLastCall() {
        Check.due("emit as the 512th", after511Calls().emit(VADD, 0, 0, 0), 2);
        Check.due("a bad emit as the 512th", after511Calls().emit(VADD, 0, 0, 4), BAD);
        Check.due("run as the 512th", after511Calls().run(), 1);
        Check.due("element as the 512th", after511Calls().element(3, 15), 7);
        Check.due("setElement as the 512th", after511Calls().setElement(0, 0, 1), true);
        Check.due("a refused setElement as the 512th", after511Calls().setElement(0, 16, 1), false);
        Check.due("scalar as the 512th", after511Calls().scalar(3), 9);
        Check.due("vectorLength as the 512th", after511Calls().vectorLength(), 9);
        Check.due("memory as the 512th", after511Calls().memory(63), 8);
        Check.due("setMemory as the 512th", after511Calls().setMemory(0, 1), true);
        Check.due("a refused setMemory as the 512th", after511Calls().setMemory(64, 1), false);
    }

    private static void endsAfterwards(ChainedVectorUnit unit) {
        int rounds = 0;
        for (int a : STRANGE) {
            for (int b : STRANGE) {
                for (int c : STRANGE) {
                    allCalls(unit, a, b, c);
                    rounds++;
                }
            }
        }
        Check.due("rounds that ended", rounds, STRANGE.length * STRANGE.length * STRANGE.length);
    }

    private static void allCalls(ChainedVectorUnit unit, int a, int b, int c) {
        for (int op = -1; op <= 13; op++) {
            unit.emit(op, a, b, c);
        }
        unit.emit(a, b, c, a);
        unit.setElement(a, b, c);
        unit.setMemory(a, b);
        unit.run();
        unit.element(a, b);
        unit.scalar(a);
        unit.memory(a);
        unit.vectorLength();
        if (a == b) {
            unit.clear();
        }
    }
}
