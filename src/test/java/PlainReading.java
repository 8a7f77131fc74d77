/** The plain reading of the document's terms, one instruction wholly after the other. */
final class PlainReading {
    final int[][] vectors = new int[4][16];
    final int[] scalars = new int[4];
    final int[] cells = new int[64];
    int length = 16;

    void step(int op, int x, int y, int z) {
        switch (op) {
            case ChainedVectorUnit.VSUM -> scalars[x] = sum(vectors[y]);
            case ChainedVectorUnit.SSET -> scalars[x] = y;
            case ChainedVectorUnit.SADD -> scalars[x] = scalars[y] + scalars[z];
            case ChainedVectorUnit.SLEN -> length = Math.max(0, Math.min(16, scalars[x]));
            default -> {
                for (int i = 0; i < length; i++) {
                    stepElement(op, x, y, z, i);
                }
            }
        }
    }

    int[] state() {
        int[] seen = new int[State.SIZE];
        for (int v = 0; v < 4; v++) {
            System.arraycopy(vectors[v], 0, seen, v * 16, 16);
        }
        System.arraycopy(scalars, 0, seen, State.SCALAR_0, 4);
        System.arraycopy(cells, 0, seen, State.CELL_0, 64);
        seen[State.LENGTH] = length;
        return seen;
    }

    private int sum(int[] vector) {
        int sum = 0;
        for (int i = 0; i < length; i++) {
            sum += vector[i];
        }
        return sum;
    }

    private void stepElement(int op, int x, int y, int z, int i) {
        switch (op) {
            case ChainedVectorUnit.VADD -> vectors[x][i] = vectors[y][i] + vectors[z][i];
            case ChainedVectorUnit.VSUB -> vectors[x][i] = vectors[y][i] - vectors[z][i];
            case ChainedVectorUnit.VMUL -> vectors[x][i] = vectors[y][i] * vectors[z][i];
            case ChainedVectorUnit.VMAX -> vectors[x][i] = Math.max(vectors[y][i], vectors[z][i]);
            case ChainedVectorUnit.VADDS -> vectors[x][i] = vectors[y][i] + scalars[z];
            case ChainedVectorUnit.VMULS -> vectors[x][i] = vectors[y][i] * scalars[z];
            case ChainedVectorUnit.VLOAD -> vectors[x][i] = cells[(scalars[y] + i * z) & 63];
            case ChainedVectorUnit.VSTORE -> cells[(scalars[y] + i * z) & 63] = vectors[x][i];
            case ChainedVectorUnit.VGATHER -> vectors[x][i] = cells[vectors[y][i] & 63];
            default -> throw new IllegalArgumentException("op " + op);
        }
    }
}
