/** Promises 4 to 7: element, setElement, scalar and vectorLength. */
public final class RegistersTest {
    private static final int[] NO_REGISTERS = {-1, 4, 5, 64, Integer.MIN_VALUE, Integer.MAX_VALUE};
    private static final int[] NO_ELEMENTS = {-1, -16, 16, 17, 64, Integer.MIN_VALUE, Integer.MAX_VALUE};

    public static void main(String[] args) {
        setsAndAnswersElements();
        refusesOutsideElements();
        answersScalars();
        answersTheLength();
        Check.end();
    }

    private static void setsAndAnswersElements() {
        ChainedVectorUnit unit = new ChainedVectorUnit(1, 5);
        for (int v = 0; v < 4; v++) {
            for (int i = 0; i < 16; i++) {
                Check.due("setElement(" + v + ", " + i + ")", unit.setElement(v, i, 100 * v + i - 7), true);
            }
        }
        for (int v = 0; v < 4; v++) {
            for (int i = 0; i < 16; i++) {
                Check.due("element(" + v + ", " + i + ")", unit.element(v, i), 100 * v + i - 7);
            }
        }
        unit.setElement(3, 15, Integer.MIN_VALUE);
        Check.due("the least int", unit.element(3, 15), Integer.MIN_VALUE);
        unit.setElement(3, 15, 0);
        Check.due("set again", unit.element(3, 15), 0);
    }

    private static void refusesOutsideElements() {
        ChainedVectorUnit unit = new ChainedVectorUnit(4, 1);
        State.fill(unit);
        int[] before = State.filled();
        for (int v : NO_REGISTERS) {
            refused(unit, v, 0);
            refused(unit, v, 15);
        }
        for (int i : NO_ELEMENTS) {
            refused(unit, 0, i);
            refused(unit, 1, i);
            refused(unit, 3, i);
            refused(unit, -1, i);
        }
        State.same("after refused calls", State.of(unit), before);
        // L cuts what instructions do, not what can be seen and set from outside.
        Check.due("an element past L = 5 is set", unit.setElement(2, 9, 77), true);
        Check.due("an element past L = 5", unit.element(2, 9), 77);
    }

    private static void refused(ChainedVectorUnit unit, int v, int i) {
        Check.due("setElement(" + v + ", " + i + ")", unit.setElement(v, i, 4321), false);
        Check.due("element(" + v + ", " + i + ")", unit.element(v, i), 0);
    }

    private static void answersScalars() {
        ChainedVectorUnit unit = new ChainedVectorUnit(3, 3);
        for (int s = 0; s < 4; s++) {
            unit.emit(ChainedVectorUnit.SSET, s, 11 * s - 5, 0);
        }
        unit.run();
        for (int s = 0; s < 4; s++) {
            Check.due("scalar(" + s + ")", unit.scalar(s), 11 * s - 5);
        }
        for (int s : NO_REGISTERS) {
            Check.due("scalar(" + s + ")", unit.scalar(s), 0);
        }
    }

    private static void answersTheLength() {
        ChainedVectorUnit unit = new ChainedVectorUnit(2, 2);
        Check.due("vectorLength() at first", unit.vectorLength(), 16);
        unit.emit(ChainedVectorUnit.SSET, 1, 6, 0);
        unit.emit(ChainedVectorUnit.SLEN, 1, 0, 0);
        Check.due("vectorLength() before run", unit.vectorLength(), 16);
        unit.run();
        Check.due("vectorLength() after run", unit.vectorLength(), 6);
        unit.run();
        Check.due("vectorLength() after an empty run", unit.vectorLength(), 6);
    }
}
