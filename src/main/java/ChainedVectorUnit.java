/**
 * A vector unit with lanes and chaining. A run goes cycle by cycle: instructions are issued in
 * order, one a cycle; each begins up to `lanes` elements a cycle, and an element's result is
 * written `delay` cycles after its beginning. Later instructions wait just long enough for the
 * outcome to be that of one instruction wholly after the other.
 */
public final class ChainedVectorUnit {
    public static final int VADD = 0;
    public static final int VSUB = 1;
    public static final int VMUL = 2;
    public static final int VMAX = 3;
    public static final int VADDS = 4;
    public static final int VMULS = 5;
    public static final int VLOAD = 6;
    public static final int VSTORE = 7;
    public static final int VGATHER = 8;
    public static final int VSUM = 9;
    public static final int SSET = 10;
    public static final int SADD = 11;
    public static final int SLEN = 12;
    public static final int BAD = -1;
    public static final int FULL = -2;

    private static final int REGISTERS = 4;
    private static final int ELEMENTS = 16;
    private static final int CELLS = 64;
    private static final int CELL_MASK = 63;
    private static final int INSTRUCTIONS = 16;
    private static final int MOST_LANES = 4;
    private static final int MOST_DELAY = 5;

    // An instruction that waits for all before it takes 1 cycle to issue, at most 16 to begin
    // its elements and at most 5 for the last result, so 16 of them take less than 400 cycles.
    private static final int CYCLE_LIMIT = 10000;

    private final int lanes;
    private final int delay;

    private final int[] vectors = new int[64];
    private final int[] scalars = new int[4];
    private final int[] cells = new int[64];
    private int activeLength;

    private final int[] ops = new int[16];
    private final int[] xs = new int[16];
    private final int[] ys = new int[16];
    private final int[] zs = new int[16];
    private int count;

    // What each issued instruction of a run took along when it was issued, and how far it has come.
    private final int[] takenLengths = new int[16];
    private final int[] takenScalars = new int[16];
    private final int[] begun = new int[16];
    private final int[] finished = new int[16];
    private int issued;

    // The pipelines: element i of instruction j stands at j * ELEMENTS + i.
    private final int[] results = new int[256];
    private final int[] readyCycles = new int[256];

    public ChainedVectorUnit(int lanes, int delay) {
        this.lanes = clamp(lanes, 1, MOST_LANES);
        this.delay = clamp(delay, 1, MOST_DELAY);
        reset();
    }

    public int emit(int op, int x, int y, int z) {
        if (count >= INSTRUCTIONS) {
            return FULL;
        }
        if (op < VADD || op > SLEN || !isRegister(x)) {
            return BAD;
        }
        if (namesRegisterInY(op) && !isRegister(y)) {
            return BAD;
        }
        if (namesRegisterInZ(op) && !isRegister(z)) {
            return BAD;
        }
        ops[count] = op;
        xs[count] = x;
        ys[count] = y;
        zs[count] = z;
        count++;
        return count;
    }

    public int run() {
        int ran = count;
        issued = 0;
        for (int cycle = 0; cycle < CYCLE_LIMIT && !isProgramDone(); cycle++) {
            finishElements(cycle);
            beginElements(cycle);
            issueNext();
        }
        count = 0;
        return ran;
    }

    public int element(int v, int i) {
        return isRegister(v) && isElement(i) ? vectors[v * ELEMENTS + i] : 0;
    }

    public boolean setElement(int v, int i, int value) {
        if (!isRegister(v) || !isElement(i)) {
            return false;
        }
        vectors[v * ELEMENTS + i] = value;
        return true;
    }

    public int scalar(int s) {
        return isRegister(s) ? scalars[s] : 0;
    }

    public int vectorLength() {
        return activeLength;
    }

    public int memory(int cell) {
        return isCell(cell) ? cells[cell] : 0;
    }

    public boolean setMemory(int cell, int value) {
        if (!isCell(cell)) {
            return false;
        }
        cells[cell] = value;
        return true;
    }

    public void clear() {
        reset();
    }

    private void reset() {
        for (int i = 0; i < REGISTERS * ELEMENTS; i++) {
            vectors[i] = 0;
        }
        for (int s = 0; s < REGISTERS; s++) {
            scalars[s] = 0;
        }
        for (int cell = 0; cell < CELLS; cell++) {
            cells[cell] = 0;
        }
        activeLength = ELEMENTS;
        count = 0;
        issued = 0;
    }

    private static int clamp(int value, int least, int most) {
        if (value < least) {
            return least;
        }
        return value > most ? most : value;
    }

    private static boolean isRegister(int number) {
        return number >= 0 && number < REGISTERS;
    }

    private static boolean isElement(int number) {
        return number >= 0 && number < ELEMENTS;
    }

    private static boolean isCell(int number) {
        return number >= 0 && number < CELLS;
    }

    private static boolean namesRegisterInY(int op) {
        return op != SSET && op != SLEN;
    }

    private static boolean namesRegisterInZ(int op) {
        return op <= VMULS || op == SADD;
    }

    private boolean isProgramDone() {
        if (issued < count) {
            return false;
        }
        for (int j = 0; j < issued; j++) {
            if (isInFlight(j)) {
                return false;
            }
        }
        return true;
    }

    private boolean isInFlight(int j) {
        return finished[j] < takenLengths[j];
    }

    // Issuing is in the order of the program, so an instruction that takes its scalar and the
    // vector length along when it is issued is safe from all later writers of them.
    private void issueNext() {
        if (issued >= count || mustWaitToIssue(issued)) {
            return;
        }
        int j = issued;
        begun[j] = 0;
        finished[j] = 0;
        takenScalars[j] = scalarOperand(j);
        takenLengths[j] = isScalarOnly(ops[j]) ? 0 : activeLength;
        issued++;
        if (isScalarOnly(ops[j])) {
            doScalarInstruction(j);
        } else if (ops[j] == VSUM) {
            // The sum grows in its register: nothing else that names it is issued before it is whole.
            scalars[xs[j]] = 0;
        }
    }

    private boolean mustWaitToIssue(int j) {
        for (int earlier = 0; earlier < j; earlier++) {
            if (isInFlight(earlier) && (clashesOverScalar(earlier, j) || clashesOverMemory(earlier, j))) {
                return true;
            }
        }
        return false;
    }

    // A sum is the only instruction that is still writing a scalar after its issue.
    private boolean clashesOverScalar(int earlier, int later) {
        return ops[earlier] == VSUM && namesScalar(later, xs[earlier]);
    }

    // Cells are known only element by element, so a store shares the memory with nobody.
    private boolean clashesOverMemory(int earlier, int later) {
        if (!usesMemory(ops[earlier]) || !usesMemory(ops[later])) {
            return false;
        }
        return ops[earlier] == VSTORE || ops[later] == VSTORE;
    }

    private static boolean usesMemory(int op) {
        return op == VLOAD || op == VSTORE || op == VGATHER;
    }

    private static boolean isScalarOnly(int op) {
        return op >= SSET;
    }

    private boolean namesScalar(int j, int s) {
        switch (ops[j]) {
            case VADDS:
            case VMULS:
                return zs[j] == s;
            case VLOAD:
            case VSTORE:
                return ys[j] == s;
            case SADD:
                return xs[j] == s || ys[j] == s || zs[j] == s;
            case VSUM:
            case SSET:
            case SLEN:
                return xs[j] == s;
            default:
                return false;
        }
    }

    private int scalarOperand(int j) {
        switch (ops[j]) {
            case VADDS:
            case VMULS:
                return scalars[zs[j]];
            case VLOAD:
            case VSTORE:
                return scalars[ys[j]];
            default:
                return 0;
        }
    }

    private void doScalarInstruction(int j) {
        if (ops[j] == SSET) {
            scalars[xs[j]] = ys[j];
        } else if (ops[j] == SADD) {
            scalars[xs[j]] = scalars[ys[j]] + scalars[zs[j]];
        } else {
            activeLength = clamp(scalars[xs[j]], 0, ELEMENTS);
        }
    }

    private void beginElements(int cycle) {
        for (int j = 0; j < issued; j++) {
            for (int lane = 0; lane < lanes; lane++) {
                int i = begun[j];
                if (i >= takenLengths[j] || mustWaitToBegin(j, i)) {
                    break;
                }
                results[j * ELEMENTS + i] = resultOf(j, i);
                readyCycles[j * ELEMENTS + i] = cycle + delay;
                begun[j] = i + 1;
            }
        }
    }

    // Chaining: an element waits for the same element of the instructions before it, not for
    // their whole vectors.
    private boolean mustWaitToBegin(int j, int i) {
        for (int earlier = 0; earlier < j; earlier++) {
            if (i < takenLengths[earlier] && holdsBack(earlier, j, i)) {
                return true;
            }
        }
        return false;
    }

    private boolean holdsBack(int earlier, int later, int i) {
        if (finished[earlier] <= i && writesVector(ops[earlier])) {
            int target = xs[earlier];
            if (readsVector(later, target) || (writesVector(ops[later]) && xs[later] == target)) {
                return true;
            }
        }
        return begun[earlier] <= i && writesVector(ops[later]) && readsVector(earlier, xs[later]);
    }

    private static boolean writesVector(int op) {
        return op <= VLOAD || op == VGATHER;
    }

    private boolean readsVector(int j, int v) {
        switch (ops[j]) {
            case VADD:
            case VSUB:
            case VMUL:
            case VMAX:
                return ys[j] == v || zs[j] == v;
            case VADDS:
            case VMULS:
            case VGATHER:
            case VSUM:
                return ys[j] == v;
            case VSTORE:
                return xs[j] == v;
            default:
                return false;
        }
    }

    private int resultOf(int j, int i) {
        switch (ops[j]) {
            case VLOAD:
                return cells[cellOf(j, i)];
            case VSTORE:
                return vectors[xs[j] * ELEMENTS + i];
            case VGATHER:
                return cells[vectors[ys[j] * ELEMENTS + i] & CELL_MASK];
            case VSUM:
                return vectors[ys[j] * ELEMENTS + i];
            default:
                return arithmeticOf(j, i);
        }
    }

    private int arithmeticOf(int j, int i) {
        int a = vectors[ys[j] * ELEMENTS + i];
        if (ops[j] == VADDS) {
            return a + takenScalars[j];
        }
        if (ops[j] == VMULS) {
            return a * takenScalars[j];
        }
        int b = vectors[zs[j] * ELEMENTS + i];
        switch (ops[j]) {
            case VADD:
                return a + b;
            case VSUB:
                return a - b;
            case VMUL:
                return a * b;
            default:
                return a > b ? a : b;
        }
    }

    private int cellOf(int j, int i) {
        return (takenScalars[j] + i * zs[j]) & CELL_MASK;
    }

    private void finishElements(int cycle) {
        for (int j = 0; j < issued; j++) {
            for (int i = finished[j]; i < begun[j] && readyCycles[j * ELEMENTS + i] <= cycle; i++) {
                deliver(j, i);
                finished[j] = i + 1;
            }
        }
    }

    private void deliver(int j, int i) {
        int value = results[j * ELEMENTS + i];
        if (ops[j] == VSTORE) {
            cells[cellOf(j, i)] = value;
        } else if (ops[j] == VSUM) {
            scalars[xs[j]] += value;
        } else {
            vectors[xs[j] * ELEMENTS + i] = value;
        }
    }
}
