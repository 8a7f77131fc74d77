/** Promise 2: emit, its codes and the order in which they are tested. */
public final class EmitTest implements Ops {
    private static final int[] NO_REGISTERS = {-1, -2, -4, 4, 5, 7, 8, 16, 256, 65536, MIN, MIN + 3, MAX};
    private static final int[] NO_OPS = {-1, -2, -3, 13, 14, 16, 26, 256, 65536, MIN, MIN + 12, MAX};
    private static final int[] ANY = {MIN, MIN + 1, -65, -1, 0, 3, 4, 15, 16, 63, 64, 12345678, MAX};

    public static void main(String[] args) {
        Check.onEach("Adds an instruction at the end", EmitTest::addsAtTheEnd);
        Check.onEach("16 instructions are there: FULL", EmitTest::full);
        Check.once("Tested in this order: FULL before BAD", EmitTest::fullComesFirst);
        Check.once("op outside 0..12: BAD", EmitTest::badOps);
        Check.once("x outside 0..3: BAD", EmitTest::badX);
        Check.once("for all but SSET and SLEN: y outside 0..3: BAD", EmitTest::badY);
        Check.once("for VADD to VMULS and SADD: z outside 0..3: BAD", EmitTest::badZ);
        Check.once("Tested in this order: more than one wrong operand is BAD too", EmitTest::badTogether);
        Check.once("operands that an instruction does not have play no part: emit", EmitTest::spareOperandsAreTaken);
        Check.onEach("operands that an instruction does not have play no part: run", EmitTest::spareOperandsDoNothing);
        Check.onEach("n is any int", EmitTest::anyNumber);
        Check.onEach("k is any int", EmitTest::anyStep);
        Check.once("Else answers the new number of instructions: every register", EmitTest::everyRegister);
        Check.onEach("Else answers the new number of instructions: 1 to 16", EmitTest::numbers);
        Check.end();
    }

    private static ChainedVectorUnit fresh() {
        return new ChainedVectorUnit(2, 3);
    }

    private static boolean hasY(int op) {
        return op != SSET && op != SLEN;
    }

    private static boolean hasRegisterInZ(int op) {
        return op <= VMULS || op == SADD;
    }

    private static void addsAtTheEnd(ChainedVectorUnit unit) {
        unit.emit(SSET, 0, 5, 0);
        unit.emit(SSET, 0, 6, 0);
        unit.emit(SADD, 1, 0, 0);
        unit.emit(SSET, 0, 7, 0);
        Check.due("run()", unit.run(), 4);
        Check.due("the third saw the second", unit.scalar(1), 12);
        Check.due("the fourth came last", unit.scalar(0), 7);
    }

    private static void full(ChainedVectorUnit unit) {
        for (int n = 1; n <= 16; n++) {
            Check.due("emit number " + n, unit.emit(SSET, n % 4, n, 0), n);
        }
        for (int op = VADD; op <= SLEN; op++) {
            Check.due("op " + op + " at 16", unit.emit(op, 0, 0, 0), FULL);
        }
        Check.due("run()", unit.run(), 16);
        Check.due("emit after a run", unit.emit(VADD, 0, 0, 0), 1);
        unit.clear();
        for (int n = 1; n <= 16; n++) {
            unit.emit(SLEN, 0, 0, 0);
        }
        Check.due("emit number 17 again", unit.emit(SLEN, 0, 0, 0), FULL);
    }

    private static ChainedVectorUnit with(int size) {
        ChainedVectorUnit unit = fresh();
        for (int n = 1; n <= size; n++) {
            unit.emit(SADD, 0, 0, 0);
        }
        return unit;
    }

    private static void fullComesFirst() {
        ChainedVectorUnit full = with(16);
        ChainedVectorUnit almost = with(15);
        for (int op : NO_OPS) {
            Check.due("op " + op + " at 16", full.emit(op, 0, 0, 0), FULL);
            Check.due("op " + op + " at 15", almost.emit(op, 0, 0, 0), BAD);
        }
        for (int wrong : NO_REGISTERS) {
            Check.due("x " + wrong + " at 16", full.emit(VADD, wrong, 0, 0), FULL);
            Check.due("x " + wrong + " at 15", almost.emit(VADD, wrong, 0, 0), BAD);
            Check.due("y " + wrong + " at 16", full.emit(VADD, 0, wrong, 0), FULL);
            Check.due("y " + wrong + " at 15", almost.emit(VADD, 0, wrong, 0), BAD);
            Check.due("z " + wrong + " at 16", full.emit(VADD, 0, 0, wrong), FULL);
            Check.due("z " + wrong + " at 15", almost.emit(VADD, 0, 0, wrong), BAD);
        }
        Check.due("the 16th", almost.emit(SADD, 0, 0, 0), 16);
    }

    private static void badOps() {
        for (int op : NO_OPS) {
            for (int x = 0; x < 4; x++) {
                Check.due("emit(" + op + ", " + x + ", 0, 3)", fresh().emit(op, x, 0, 3), BAD);
            }
        }
        Check.due("the least op", fresh().emit(0, 0, 0, 0), 1);
        Check.due("the greatest op", fresh().emit(12, 0, 0, 0), 1);
    }

    private static void badX() {
        for (int op = VADD; op <= SLEN; op++) {
            for (int wrong : NO_REGISTERS) {
                Check.due("emit(" + op + ", " + wrong + ", 0, 0)", fresh().emit(op, wrong, 0, 0), BAD);
                Check.due("emit(" + op + ", " + wrong + ", 3, 3)", fresh().emit(op, wrong, 3, 3), BAD);
            }
        }
    }

    private static void badY() {
        for (int op = VADD; op <= SLEN; op++) {
            for (int wrong : NO_REGISTERS) {
                int due = hasY(op) ? BAD : 1;
                Check.due("emit(" + op + ", 0, " + wrong + ", 0)", fresh().emit(op, 0, wrong, 0), due);
                Check.due("emit(" + op + ", 3, " + wrong + ", 3)", fresh().emit(op, 3, wrong, 3), due);
            }
        }
    }

    private static void badZ() {
        for (int op = VADD; op <= SLEN; op++) {
            for (int wrong : NO_REGISTERS) {
                int due = hasRegisterInZ(op) ? BAD : 1;
                Check.due("emit(" + op + ", 0, 0, " + wrong + ")", fresh().emit(op, 0, 0, wrong), due);
                Check.due("emit(" + op + ", 3, 3, " + wrong + ")", fresh().emit(op, 3, 3, wrong), due);
            }
        }
    }

    private static void badTogether() {
        for (int wrong : NO_REGISTERS) {
            for (int op : NO_OPS) {
                Check.due("a wrong op and wrong operands", fresh().emit(op, wrong, wrong, wrong), BAD);
            }
            for (int op = VADD; op <= SLEN; op++) {
                Check.due("op " + op + " with wrong operands", fresh().emit(op, wrong, wrong, wrong), BAD);
                int due = hasY(op) ? BAD : 1;
                Check.due("op " + op + " with wrong y and z", fresh().emit(op, 1, wrong, wrong), due);
            }
        }
    }

    private static void spareOperandsAreTaken() {
        for (int any : ANY) {
            Check.due("VGATHER with z " + any, fresh().emit(VGATHER, 1, 2, any), 1);
            Check.due("VSUM with z " + any, fresh().emit(VSUM, 1, 2, any), 1);
            Check.due("SSET with z " + any, fresh().emit(SSET, 1, 2, any), 1);
            Check.due("SLEN with y and z " + any, fresh().emit(SLEN, 1, any, any), 1);
        }
    }

    private static void spareOperandsDoNothing(ChainedVectorUnit unit) {
        Drive.setVector(unit, 0, i -> i);
        for (int cell = 0; cell < 16; cell++) {
            unit.setMemory(cell, 500 + cell);
        }
        for (int any : ANY) {
            Drive.program(unit, Drive.in(SSET, 1, 6, any), Drive.in(SSET, 2, 99, any), Drive.in(SLEN, 1, any, any),
                Drive.in(VSUM, 2, 0, any), Drive.in(VGATHER, 1, 0, any));
            Check.due("SLEN with spare " + any, unit.vectorLength(), 6);
            Check.due("SSET with spare " + any, unit.scalar(1), 6);
            Check.due("VSUM with spare " + any, unit.scalar(2), 15);
            for (int i = 0; i < 16; i++) {
                Check.due("VGATHER with spare " + any, unit.element(1, i), i < 6 ? 500 + i : 0);
            }
        }
    }

    private static void anyNumber(ChainedVectorUnit unit) {
        for (int n : ANY) {
            Check.due("emit(SSET, 2, " + n + ", 0)", unit.emit(SSET, 2, n, 0), 1);
            Check.due("run()", unit.run(), 1);
            Check.due("scalar(2)", unit.scalar(2), n);
        }
    }

    private static void anyStep(ChainedVectorUnit unit) {
        Drive.setCells(unit, cell -> cell);
        Drive.setLength(unit, 2);
        unit.setElement(2, 1, -7);
        for (int k : ANY) {
            int cell = k & 63;
            Check.due("emit(VLOAD, 1, 0, " + k + ")", unit.emit(VLOAD, 1, 0, k), 1);
            Check.due("emit(VSTORE, 2, 0, " + k + ")", unit.emit(VSTORE, 2, 0, k), 2);
            Check.due("run()", unit.run(), 2);
            Check.due("element 1 comes from cell " + k + " & 63", unit.element(1, 1), cell);
            Check.due("element 1 goes to cell " + k + " & 63", unit.memory(cell), -7);
            unit.setMemory(cell, cell);
        }
        Drive.cellsAre("no other cell was written", unit, cell -> cell);
    }

    private static void everyRegister() {
        for (int op = VADD; op <= SLEN; op++) {
            for (int xyz = 0; xyz < 64; xyz++) {
                int x = xyz / 16;
                int y = xyz / 4 % 4;
                int z = xyz % 4;
                Check.due("emit(" + op + ", " + x + ", " + y + ", " + z + ")", fresh().emit(op, x, y, z), 1);
            }
        }
    }

    private static void numbers(ChainedVectorUnit unit) {
        for (int round = 0; round < 3; round++) {
            for (int n = 1; n <= 16; n++) {
                int op = (n + round) % 13;
                Check.due("emit number " + n, unit.emit(op, n % 4, (n + 1) % 4, (n + 2) % 4), n);
                if (n < 16) {
                    Check.due("a bad one after it", unit.emit(op, 4, 0, 0), BAD);
                }
            }
            Check.due("run()", unit.run(), 16);
        }
    }
}
