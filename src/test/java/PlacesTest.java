/** "Terms", first paragraph: the registers, the vector length, the memory and the program. */
public final class PlacesTest implements Ops {
    private static final int[] INTS = {MIN, MIN + 1, -65536, -1, 0, 1, 65535, 65536, MAX - 1, MAX};

    public static void main(String[] args) {
        Check.once("There are 4 vector registers, 0 to 3, of 16 elements each", PlacesTest::vectorRegisters);
        Check.onEach("4 scalar registers, 0 to 3", PlacesTest::scalarRegisters);
        Check.onEach("a vector length L from 0 to 16", PlacesTest::vectorLengths);
        Check.onEach("a memory of 64 cells", PlacesTest::memoryCells);
        Check.onEach("all hold ints: vector registers", PlacesTest::vectorsHoldInts);
        Check.onEach("all hold ints: scalar registers", PlacesTest::scalarsHoldInts);
        Check.onEach("all hold ints: cells", PlacesTest::cellsHoldInts);
        Check.onEach("A program is a list of up to 16 instructions, fed one a call", PlacesTest::programs);
        Check.end();
    }

    private static void vectorRegisters() {
        for (int d = 0; d < 4; d++) {
            for (int a = 0; a < 4; a++) {
                copies(new ChainedVectorUnit(1 + d, 1 + a), d, a);
            }
        }
    }

    /** One instruction writes all 16 elements of its register, and no element of another. */
    private static void copies(ChainedVectorUnit unit, int d, int a) {
        for (int v = 0; v < 4; v++) {
            int base = 100 * v + 1;
            Drive.setVector(unit, v, i -> base + i);
        }
        Drive.one(unit, VADDS, d, a, 0);
        for (int v = 0; v < 4; v++) {
            int base = 100 * (v == d ? a : v) + 1;
            Drive.vectorIs("register " + a + " copied to " + d, unit, v, i -> base + i);
        }
    }

    private static void scalarRegisters(ChainedVectorUnit unit) {
        for (int s = 0; s < 4; s++) {
            Drive.setScalar(unit, s, 10 + s);
            for (int t = 0; t < 4; t++) {
                Check.due("scalar(" + t + ") after " + s + " is set", unit.scalar(t), t <= s ? 10 + t : 0);
            }
        }
        for (int s = 0; s < 4; s++) {
            int due = 10 + s;
            Drive.one(unit, VADDS, 1, 0, s);
            Drive.vectorIs("scalar " + s + " added", unit, 1, i -> due);
        }
    }

    private static void vectorLengths(ChainedVectorUnit unit) {
        for (int length = 0; length <= 16; length++) {
            int end = length;
            Drive.setLength(unit, length);
            Check.due("vectorLength() after SLEN of " + length, unit.vectorLength(), length);
            // Scalar 3 holds the length, so what each round writes differs from what was there.
            Drive.program(unit, Drive.in(SSET, 0, length + 100, 0), Drive.in(VADDS, 1, 0, 0));
            Drive.vectorIs("L = " + length, unit, 1, i -> i < end ? end + 100 : 0);
        }
    }

    private static void memoryCells(ChainedVectorUnit unit) {
        for (int part = 0; part < 4; part++) {
            int base = 16 * part;
            Drive.setVector(unit, 2, i -> 1000 + base + i);
            Drive.program(unit, Drive.in(SSET, 1, base, 0), Drive.in(VSTORE, 2, 1, 1));
        }
        Drive.cellsAre("stored in four parts", unit, cell -> 1000 + cell);
        for (int part = 0; part < 4; part++) {
            int base = 16 * part;
            Drive.program(unit, Drive.in(SSET, 1, base, 0), Drive.in(VLOAD, 3, 1, 1));
            Drive.vectorIs("loaded from " + base, unit, 3, i -> 1000 + base + i);
        }
    }

    private static void vectorsHoldInts(ChainedVectorUnit unit) {
        Drive.setVector(unit, 0, i -> INTS[i % INTS.length]);
        Drive.program(unit, Drive.in(VADD, 3, 0, 1), Drive.in(VMAX, 2, 3, 3));
        Drive.vectorIs("set", unit, 0, i -> INTS[i % INTS.length]);
        Drive.vectorIs("added to 0", unit, 3, i -> INTS[i % INTS.length]);
        Drive.vectorIs("the greater of two alike", unit, 2, i -> INTS[i % INTS.length]);
    }

    private static void scalarsHoldInts(ChainedVectorUnit unit) {
        for (int value : INTS) {
            Drive.program(unit, Drive.in(SSET, 0, value, 0), Drive.in(SADD, 3, 0, 1));
            Check.due("set", unit.scalar(0), value);
            Check.due("added to 0", unit.scalar(3), value);
            unit.setElement(2, 15, value);
            Drive.one(unit, VSUM, 2, 2, 0);
            Check.due("summed", unit.scalar(2), value);
        }
    }

    private static void cellsHoldInts(ChainedVectorUnit unit) {
        for (int n = 0; n < INTS.length; n++) {
            unit.setMemory(n, INTS[n]);
        }
        Drive.program(unit, Drive.in(VLOAD, 0, 0, 1), Drive.in(SSET, 0, 48, 0), Drive.in(VSTORE, 0, 0, 1));
        for (int n = 0; n < INTS.length; n++) {
            Check.due("set", unit.memory(n), INTS[n]);
            Check.due("loaded", unit.element(0, n), INTS[n]);
            Check.due("stored", unit.memory(48 + n), INTS[n]);
        }
    }

    /** Scalar 0 is doubled and made greater by 1 in turn, so that order and number both show. */
    private static void programs(ChainedVectorUnit unit) {
        for (int size = 0; size <= 16; size++) {
            Drive.program(unit, Drive.in(SSET, 0, 3, 0), Drive.in(SSET, 1, 1, 0));
            int due = 3;
            for (int n = 1; n <= size; n++) {
                boolean doubles = n % 3 != 0;
                Check.due("emit number " + n, unit.emit(SADD, 0, 0, doubles ? 0 : 1), n);
                due = doubles ? 2 * due : due + 1;
            }
            Check.due("run() of " + size, unit.run(), size);
            Check.due("scalar(0) after " + size, unit.scalar(0), due);
        }
        for (int n = 1; n <= 16; n++) {
            Check.due("emit number " + n, unit.emit(SADD, 0, 0, 0), n);
        }
        Check.due("emit number 17", unit.emit(SADD, 0, 0, 0), FULL);
    }
}
