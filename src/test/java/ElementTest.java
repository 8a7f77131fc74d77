/** Promises 4 and 5: element and setElement. */
public final class ElementTest implements Ops {
    // Among them numbers that would lead to a true place if v * 16 + i were looked at alone.
    private static final int[] NO_REGISTERS = {-1, -2, 4, 5, 16, 64, 0x10000000, 0x08000000, MIN, MIN + 1, MAX};
    private static final int[] NO_ELEMENTS = {-1, -2, -16, 16, 17, 31, 32, 64, MIN, MIN + 15, MAX};
    private static final int[] INTS = {MIN, MIN + 1, -1, 0, 1, MAX};

    public static void main(String[] args) {
        Check.onEach("Element i of vector register v", ElementTest::everyElement);
        Check.onEach("0 if v is outside 0..3", ElementTest::zeroOutsideRegisters);
        Check.onEach("0 if i is outside 0..15", ElementTest::zeroOutsideElements);
        Check.onEach("0 if v is outside 0..3 or i outside 0..15: both", ElementTest::zeroOutsideBoth);
        Check.onEach("element changes nothing", ElementTest::lookingChangesNothing);
        Check.onEach("Sets element i of vector register v", ElementTest::setsOneElement);
        Check.onEach("Sets element i of vector register v: to any int", ElementTest::setsAnyInt);
        Check.onEach("v outside 0..3: refused, answers false", ElementTest::refusesRegisters);
        Check.onEach("i outside 0..15: refused, answers false", ElementTest::refusesElements);
        Check.onEach("v outside 0..3 or i outside 0..15: both", ElementTest::refusesBoth);
        Check.onEach("Else true: every element, also from L on", ElementTest::trueForEvery);
        Check.end();
    }

    private static void setAll(ChainedVectorUnit unit) {
        for (int v = 0; v < 4; v++) {
            int base = 100 * v + 1;
            Drive.setVector(unit, v, i -> base + i);
        }
    }

    private static void allAre(String when, ChainedVectorUnit unit) {
        for (int v = 0; v < 4; v++) {
            int base = 100 * v + 1;
            Drive.vectorIs(when, unit, v, i -> base + i);
        }
    }

    private static void everyElement(ChainedVectorUnit unit) {
        setAll(unit);
        allAre("set", unit);
    }

    private static void zeroOutsideRegisters(ChainedVectorUnit unit) {
        setAll(unit);
        for (int v : NO_REGISTERS) {
            for (int i = 0; i < 16; i++) {
                Check.due("element(" + v + ", " + i + ")", unit.element(v, i), 0);
            }
        }
    }

    private static void zeroOutsideElements(ChainedVectorUnit unit) {
        setAll(unit);
        for (int i : NO_ELEMENTS) {
            for (int v = 0; v < 4; v++) {
                Check.due("element(" + v + ", " + i + ")", unit.element(v, i), 0);
            }
        }
    }

    private static void zeroOutsideBoth(ChainedVectorUnit unit) {
        setAll(unit);
        for (int v : NO_REGISTERS) {
            for (int i : NO_ELEMENTS) {
                Check.due("element(" + v + ", " + i + ")", unit.element(v, i), 0);
            }
        }
    }

    private static void lookingChangesNothing(ChainedVectorUnit unit) {
        State.fill(unit);
        unit.element(3, 15);
        unit.element(4, 0);
        unit.element(0, 16);
        unit.element(-1, -1);
        State.same("after looking", State.of(unit), State.filled());
        Check.due("run()", unit.run(), 0);
    }

    private static void setsOneElement(ChainedVectorUnit unit) {
        State.fill(unit);
        int[] due = State.filled();
        int[] places = {0, 15, 16, 31, 47, 48, 63};
        for (int at : places) {
            due[at] = -1000 - at;
            Check.due("setElement", unit.setElement(at / 16, at % 16, -1000 - at), true);
        }
        State.same("after setting", State.of(unit), due);
    }

    private static void setsAnyInt(ChainedVectorUnit unit) {
        for (int value : INTS) {
            for (int v = 0; v < 4; v++) {
                Check.due("setElement(" + v + ", 15, " + value + ")", unit.setElement(v, 15, value), true);
                Check.due("element(" + v + ", 15)", unit.element(v, 15), value);
            }
        }
    }

    private static void refusesRegisters(ChainedVectorUnit unit) {
        setAll(unit);
        for (int v : NO_REGISTERS) {
            for (int i = 0; i < 16; i += 3) {
                Check.due("setElement(" + v + ", " + i + ", 9)", unit.setElement(v, i, 9), false);
            }
        }
        allAre("after refused calls", unit);
    }

    private static void refusesElements(ChainedVectorUnit unit) {
        setAll(unit);
        for (int i : NO_ELEMENTS) {
            for (int v = 0; v < 4; v++) {
                Check.due("setElement(" + v + ", " + i + ", 9)", unit.setElement(v, i, 9), false);
            }
        }
        allAre("after refused calls", unit);
    }

    private static void refusesBoth(ChainedVectorUnit unit) {
        setAll(unit);
        for (int v : NO_REGISTERS) {
            for (int i : NO_ELEMENTS) {
                Check.due("setElement(" + v + ", " + i + ", 9)", unit.setElement(v, i, 9), false);
            }
        }
        allAre("after refused calls", unit);
    }

    private static void trueForEvery(ChainedVectorUnit unit) {
        Drive.setLength(unit, 0);
        for (int v = 0; v < 4; v++) {
            for (int i = 0; i < 16; i++) {
                int value = 50 * v + i;
                Check.due("setElement(" + v + ", " + i + ")", unit.setElement(v, i, value), true);
                Check.due("the same again", unit.setElement(v, i, value), true);
                Check.due("element(" + v + ", " + i + ")", unit.element(v, i), value);
            }
        }
    }
}
