/** "Terms": what the vector length cuts, where it plays no part, and how SLEN sets it. */
public final class LengthTest implements Ops {
    private static final int[] INTS = {MIN, -1, 0, 1, 17, MAX};
    private static final int[] LENGTHS = {MIN, MIN + 1, -16, -1, 0, 1, 2, 15, 16, 17, 18, 32, 64, 256, MAX};
    private static final int[] CLAMPED = {0, 0, 0, 0, 0, 1, 2, 15, 16, 16, 16, 16, 16, 16, 16};

    public static void main(String[] args) {
        for (int op = VADD; op <= VGATHER; op++) {
            int tested = op;
            Check.onEachSize("For every element number i from 0 to L-1 (elements from L on keep their values): op " + op,
                (lanes, delay) -> cuts(lanes, delay, tested));
        }
        Check.onEach("elements from L on keep their values: L is 0", LengthTest::cutsEverything);
        Check.onEach("elements from L on keep their values: L grows again", LengthTest::growsAgain);
        Check.onEach("SSET: L plays no part", LengthTest::setsAtAnyLength);
        Check.onEach("SADD: L plays no part", LengthTest::addsAtAnyLength);
        Check.onEach("SLEN: clamped into 0..16", LengthTest::clamps);
        Check.onEach("SLEN: every scalar", LengthTest::everyScalar);
        Check.onEach("SLEN: also when L is 0", LengthTest::leavesZero);
        Check.end();
    }

    private static void cuts(int lanes, int delay, int op) {
        for (int length = 0; length <= 16; length++) {
            ChainedVectorUnit unit = new ChainedVectorUnit(lanes, delay);
            Drive.setCells(unit, cell -> 500 + cell);
            Drive.setVector(unit, 0, i -> -5);
            Drive.setScalar(unit, 1, 1);
            Drive.setLength(unit, length);
            Drive.one(unit, op, 0, 1, 1);
            cutAt(unit, op, length);
        }
    }

    // The second operands are 0 or scalar 1, which is 1; no result is the -5 that stood there.
    private static void cutAt(ChainedVectorUnit unit, int op, int length) {
        String when = "at L = " + length;
        if (op == VSTORE) {
            Drive.vectorIs(when, unit, 0, i -> -5);
            Drive.cellsAre(when, unit, cell -> cell >= 1 && cell < 1 + length ? -5 : 500 + cell);
            return;
        }
        Drive.cellsAre(when, unit, cell -> 500 + cell);
        Drive.vectorIs(when, unit, 0, i -> {
            if (i >= length) {
                return -5;
            }
            return op == VADDS ? 1 : op == VLOAD ? 501 + i : op == VGATHER ? 500 : 0;
        });
    }

    private static void cutsEverything(ChainedVectorUnit unit) {
        State.fill(unit);
        int[] due = State.filled();
        Drive.setLength(unit, 0);
        for (int op = VADD; op <= VGATHER; op++) {
            Check.due("emit of op " + op, unit.emit(op, op % 4, (op + 1) % 4, (op + 2) % 4), op + 1);
        }
        Check.due("run()", unit.run(), 9);
        due[State.SCALAR_0 + 3] = 0;
        due[State.LENGTH] = 0;
        State.same("at L = 0", State.of(unit), due);
    }

    private static void growsAgain(ChainedVectorUnit unit) {
        Drive.setVector(unit, 0, i -> i);
        Drive.setScalar(unit, 0, 100);
        Drive.setLength(unit, 4);
        Drive.one(unit, VADDS, 0, 0, 0);
        Drive.setLength(unit, 9);
        Drive.one(unit, VADDS, 0, 0, 0);
        Drive.setLength(unit, 16);
        Drive.vectorIs("lengths 4 and 9", unit, 0, i -> i < 4 ? 200 + i : i < 9 ? 100 + i : i);
        Drive.one(unit, VADDS, 0, 0, 0);
        Drive.vectorIs("lengths 4, 9 and 16", unit, 0, i -> i < 4 ? 300 + i : i < 9 ? 200 + i : 100 + i);
    }

    private static void setsAtAnyLength(ChainedVectorUnit unit) {
        for (int length = 0; length <= 16; length++) {
            Drive.setLength(unit, length);
            for (int s = 0; s < 3; s++) {
                int n = INTS[(length + s) % INTS.length];
                Drive.setScalar(unit, s, n);
                Check.due("SSET " + s + " " + n + " at L = " + length, unit.scalar(s), n);
            }
            Check.due("SSET leaves L", unit.vectorLength(), length);
        }
    }

    private static void addsAtAnyLength(ChainedVectorUnit unit) {
        Drive.program(unit, Drive.in(SSET, 0, 1000, 0), Drive.in(SSET, 1, 1, 0));
        for (int length = 0; length <= 16; length++) {
            Drive.setLength(unit, length);
            Drive.program(unit, Drive.in(SADD, 0, 0, 1), Drive.in(SADD, 2, 1, 0));
            Check.due("SADD 0 0 1 at L = " + length, unit.scalar(0), 1001 + length);
            Check.due("SADD 2 1 0 at L = " + length, unit.scalar(2), 1002 + length);
            Check.due("SADD leaves L", unit.vectorLength(), length);
        }
    }

    private static void clamps(ChainedVectorUnit unit) {
        for (int n = 0; n < LENGTHS.length; n++) {
            // From a length that none of them leads to, so that an SLEN without effect shows.
            Drive.setLength(unit, 7);
            Drive.setLength(unit, LENGTHS[n]);
            Check.due("SLEN of " + LENGTHS[n], unit.vectorLength(), CLAMPED[n]);
            Check.due("SLEN leaves its scalar", unit.scalar(3), LENGTHS[n]);
        }
    }

    private static void everyScalar(ChainedVectorUnit unit) {
        for (int s = 0; s < 4; s++) {
            Drive.setScalar(unit, s, 4 + s);
        }
        for (int s = 0; s < 4; s++) {
            Drive.one(unit, SLEN, s, 0, 0);
            Check.due("SLEN " + s, unit.vectorLength(), 4 + s);
        }
    }

    private static void leavesZero(ChainedVectorUnit unit) {
        Drive.setLength(unit, 0);
        Drive.setLength(unit, 1);
        Check.due("from 0 to 1", unit.vectorLength(), 1);
        Drive.setLength(unit, 0);
        Drive.setLength(unit, 99);
        Check.due("from 0 to 99", unit.vectorLength(), 16);
    }
}
