import java.util.function.ToIntFunction;

/** Promise 11: a refused call changes nothing, neither the state nor the program. */
public final class RefusalTest implements Ops {
    public static void main(String[] args) {
        refused("op outside 0..12, too small", BAD, unit -> unit.emit(-1, 0, 0, 0));
        refused("op outside 0..12, too large", BAD, unit -> unit.emit(13, 0, 0, 0));
        refused("x outside 0..3, too small", BAD, unit -> unit.emit(SSET, -1, 5, 0));
        refused("x outside 0..3, too large", BAD, unit -> unit.emit(SLEN, 4, 0, 0));
        refused("y outside 0..3, too small", BAD, unit -> unit.emit(VLOAD, 0, -1, 0));
        refused("y outside 0..3, too large", BAD, unit -> unit.emit(VSUM, 0, 4, 0));
        refused("z outside 0..3, too small", BAD, unit -> unit.emit(SADD, 0, 0, -1));
        refused("z outside 0..3, too large", BAD, unit -> unit.emit(VADDS, 0, 0, 4));
        refused("setElement, v too small", 0, unit -> unit.setElement(-1, 0, 9) ? 1 : 0);
        refused("setElement, v too large", 0, unit -> unit.setElement(4, 0, 9) ? 1 : 0);
        refused("setElement, i too small", 0, unit -> unit.setElement(1, -1, 9) ? 1 : 0);
        refused("setElement, i too large", 0, unit -> unit.setElement(0, 16, 9) ? 1 : 0);
        refused("setMemory, cell too small", 0, unit -> unit.setMemory(-1, 9) ? 1 : 0);
        refused("setMemory, cell too large", 0, unit -> unit.setMemory(64, 9) ? 1 : 0);
        Check.onEachSize("a call that is refused changes nothing: FULL", RefusalTest::fullChangesNothing);
        Check.onEachSize("a call that is refused changes nothing: FULL for a wrong op or operand", RefusalTest::fullAndWrong);
        Check.end();
    }

    private static void refused(String why, int answer, ToIntFunction<ChainedVectorUnit> call) {
        String sentence = "a call that is refused changes nothing: " + why;
        Check.onEach(sentence, unit -> withoutAProgram(unit, answer, call));
        Check.onEach(sentence + ", amid a program", unit -> amidAProgram(unit, answer, call));
    }

    private static void many(ChainedVectorUnit unit, int answer, ToIntFunction<ChainedVectorUnit> call) {
        for (int n = 0; n < 20; n++) {
            Check.due("the refused call", call.applyAsInt(unit), answer);
        }
    }

    private static void withoutAProgram(ChainedVectorUnit unit, int answer, ToIntFunction<ChainedVectorUnit> call) {
        State.fill(unit);
        many(unit, answer, call);
        State.same("after refused calls", State.of(unit), State.filled());
        Check.due("run() of nothing", unit.run(), 0);
        State.same("after a run of nothing", State.of(unit), State.filled());
    }

    private static void amidAProgram(ChainedVectorUnit unit, int answer, ToIntFunction<ChainedVectorUnit> call) {
        State.fill(unit);
        int[] due = State.filled();
        Check.due("the first emit", unit.emit(SADD, 0, 1, 2), 1);
        Check.due("the second emit", unit.emit(SSET, 1, 4, 0), 2);
        many(unit, answer, call);
        State.same("after refused calls", State.of(unit), due);
        Check.due("the third emit", unit.emit(SADD, 3, 0, 1), 3);
        Check.due("run()", unit.run(), 3);
        due[State.SCALAR_0] = 71 + 72;
        due[State.SCALAR_0 + 1] = 4;
        due[State.SCALAR_0 + 3] = 71 + 72 + 4;
        State.same("after the run", State.of(unit), due);
    }

    /** Feeds 16 instructions, each of which shows in scalar s: another one in its place would too. */
    private static ChainedVectorUnit fed(int lanes, int delay, int s) {
        ChainedVectorUnit unit = new ChainedVectorUnit(lanes, delay);
        State.fill(unit);
        for (int n = 1; n <= 16; n++) {
            Check.due("emit number " + n, unit.emit(SADD, s, s, n % 4), n);
        }
        return unit;
    }

    private static void runsAsFed(ChainedVectorUnit unit, int s) {
        int[] due = State.filled();
        State.same("after full emits", State.of(unit), due);
        Check.due("run()", unit.run(), 16);
        for (int n = 1; n <= 16; n++) {
            due[State.SCALAR_0 + s] += due[State.SCALAR_0 + n % 4];
        }
        State.same("after the run", State.of(unit), due);
    }

    private static void fullChangesNothing(int lanes, int delay) {
        for (int s = 0; s < 4; s++) {
            ChainedVectorUnit unit = fed(lanes, delay, s);
            for (int op = VADD; op <= SLEN; op++) {
                Check.due("emit to a full program", unit.emit(op, (s + 1) % 4, (s + 2) % 4, (s + 3) % 4), FULL);
            }
            runsAsFed(unit, s);
        }
    }

    private static void fullAndWrong(int lanes, int delay) {
        for (int s = 0; s < 4; s++) {
            ChainedVectorUnit unit = fed(lanes, delay, s);
            int other = (s + 1) % 4;
            Check.due("a wrong op to a full program", unit.emit(13, other, other, other), FULL);
            Check.due("a wrong x to a full program", unit.emit(SSET, 4, other, other), FULL);
            Check.due("a wrong y to a full program", unit.emit(VADD, other, -1, other), FULL);
            Check.due("a wrong z to a full program", unit.emit(VADD, other, other, 4), FULL);
            runsAsFed(unit, s);
        }
    }
}
