import java.util.ArrayList;
import java.util.List;

/** The whole unit in its plainest form, to be asked the same calls as the class under test. */
final class PlainUnit implements Ops {
    private PlainReading plain = new PlainReading();
    private final List<int[]> program = new ArrayList<>();

    int emit(int op, int x, int y, int z) {
        if (program.size() == 16) {
            return FULL;
        }
        if (op < 0 || op > 12 || !within(x, 4)) {
            return BAD;
        }
        if (op != SSET && op != SLEN && !within(y, 4)) {
            return BAD;
        }
        if ((op <= VMULS || op == SADD) && !within(z, 4)) {
            return BAD;
        }
        program.add(new int[] {op, x, y, z});
        return program.size();
    }

    int run() {
        int size = program.size();
        for (int[] at : program) {
            plain.step(at[0], at[1], at[2], at[3]);
        }
        program.clear();
        return size;
    }

    int element(int v, int i) {
        return within(v, 4) && within(i, 16) ? plain.vectors[v][i] : 0;
    }

    boolean setElement(int v, int i, int value) {
        boolean taken = within(v, 4) && within(i, 16);
        if (taken) {
            plain.vectors[v][i] = value;
        }
        return taken;
    }

    int scalar(int s) {
        return within(s, 4) ? plain.scalars[s] : 0;
    }

    int vectorLength() {
        return plain.length;
    }

    int memory(int cell) {
        return within(cell, 64) ? plain.cells[cell] : 0;
    }

    boolean setMemory(int cell, int value) {
        boolean taken = within(cell, 64);
        if (taken) {
            plain.cells[cell] = value;
        }
        return taken;
    }

    void clear() {
        plain = new PlainReading();
        program.clear();
    }

    int[] state() {
        return plain.state();
    }

    private static boolean within(int number, int bound) {
        return number >= 0 && number < bound;
    }
}
