/** Short names for the tests, which have no package to import the constants from. */
interface Ops {
    int VADD = ChainedVectorUnit.VADD;
    int VSUB = ChainedVectorUnit.VSUB;
    int VMUL = ChainedVectorUnit.VMUL;
    int VMAX = ChainedVectorUnit.VMAX;
    int VADDS = ChainedVectorUnit.VADDS;
    int VMULS = ChainedVectorUnit.VMULS;
    int VLOAD = ChainedVectorUnit.VLOAD;
    int VSTORE = ChainedVectorUnit.VSTORE;
    int VGATHER = ChainedVectorUnit.VGATHER;
    int VSUM = ChainedVectorUnit.VSUM;
    int SSET = ChainedVectorUnit.SSET;
    int SADD = ChainedVectorUnit.SADD;
    int SLEN = ChainedVectorUnit.SLEN;
    int BAD = ChainedVectorUnit.BAD;
    int FULL = ChainedVectorUnit.FULL;
    int MIN = Integer.MIN_VALUE;
    int MAX = Integer.MAX_VALUE;
}
