/** Promises 1 to 5: a new object, strip, put, copy, told. */
public final class StripsTest {
    private static final int NULL = -11, INDEX = -12, SIZE = -13, STORE = -14;
    private static final long TOLD_BAD = 10000000001L, TOLD_NULL = 10000000011L, TOLD_INDEX = 10000000012L;
    private static final int[] EXTREMES = {Integer.MIN_VALUE, -1, 8, 13, Integer.MAX_VALUE};

    private final Checks checks = new Checks();

    public static void main(String[] args) {
        StripsTest test = new StripsTest();
        test.newObject();
        test.strip();
        test.stripRefused();
        test.put();
        test.putRefused();
        test.copy();
        test.copyOverlapping();
        test.copyRefused();
        test.copyRefusedAtEdges();
        test.told();
        test.checks.end();
    }

    private void newObject() {
        LakeRelief x = new LakeRelief();
        for (int r = 0; r < 8; r++) {
            checks.due("new: told", TOLD_NULL, x.told(r, 0));
            checks.due("new: put", NULL, x.put(r, 0, 1));
        }
        for (int what = 0; what < 8; what++) {
            checks.due("new: count", LakeRelief.NO, x.count(what));
        }
        checks.due("new: count of nothing", LakeRelief.NO, x.count(99));
        checks.due("new: field", -2000002, x.field(-1, 0));
        checks.due("new: hollow", LakeRelief.NO, x.hollow(0));
        checks.due("new: lake", -2000002, x.lake(-1, -1));
        checks.due("new: ground", LakeRelief.NO, x.ground(-1, 0));
        checks.due("new: holds", LakeRelief.NO, x.holds(0, 2000000));
        checks.due("new: area", LakeRelief.NO, x.area(0, 2000000));
        checks.due("new: pour", LakeRelief.NO, x.pour(0, -1));
        checks.due("new: level", -2000002, x.level(0, 2));
        checks.due("new: rise", LakeRelief.NO, x.rise(2000000));
        checks.due("new: islands", LakeRelief.NO, x.islands(2000000));
    }

    private void strip() {
        LakeRelief x = new LakeRelief();
        for (int kind = 0; kind < 3; kind++) {
            for (int n = 0; n <= 12; n++) {
                checks.due("strip", 0, x.strip(7, kind, n));
                checks.due("told last", n == 0 ? TOLD_INDEX : 0, x.told(7, n - 1));
                checks.due("told behind last", TOLD_INDEX, x.told(7, n));
            }
        }
        x.put(7, 3, 77);
        checks.due("strip anew", 0, x.strip(7, 2, 12));
        checks.due("all 0 anew", 0, x.told(7, 3));
        x.put(7, 11, 5);
        x.strip(7, 2, 3);
        x.strip(7, 2, 12);
        checks.due("nothing left behind", 0, x.told(7, 11));
        checks.due("missing, n for nothing", 0, x.strip(7, -1, -4));
        checks.due("missing now", TOLD_NULL, x.told(7, 0));
        checks.due("missing again, n for nothing", 0, x.strip(7, -1, 13));
    }

    private void stripRefused() {
        LakeRelief x = Reliefs.stripsOf(Reliefs.row(4, 5));
        for (int r : EXTREMES) {
            checks.due("strip beyond", LakeRelief.BAD, x.strip(r, 0, 3));
            checks.due("strip beyond, below 0", LakeRelief.BAD, x.strip(r, 0, -3));
            checks.due("strip beyond, missing", LakeRelief.BAD, x.strip(r, -1, 0));
        }
        for (int kind : new int[] {Integer.MIN_VALUE, -2, 3, Integer.MAX_VALUE}) {
            checks.due("strip of no kind", LakeRelief.BAD, x.strip(0, kind, 3));
            checks.due("strip of no kind, below 0", LakeRelief.BAD, x.strip(0, kind, -3));
        }
        for (int kind = 0; kind < 3; kind++) {
            checks.due("too long", LakeRelief.BAD, x.strip(0, kind, 13));
            checks.due("far too long", LakeRelief.BAD, x.strip(0, kind, Integer.MAX_VALUE));
            checks.due("below 0", SIZE, x.strip(0, kind, -1));
            checks.due("far below 0", SIZE, x.strip(0, kind, Integer.MIN_VALUE));
        }
        checks.due("nothing changed", 4, x.told(0, 0));
        checks.due("nothing changed", 5, x.told(0, 1));
        checks.due("nothing changed", TOLD_INDEX, x.told(0, 2));
    }

    private void put() {
        int[] values = {0, 1, -1, 127, 128, -128, -129, 200, 256, 32767, 32768, -32768, -32769, 65536, 1000001,
            Integer.MAX_VALUE, Integer.MIN_VALUE};
        LakeRelief x = new LakeRelief();
        x.strip(0, 0, 12);
        x.strip(1, 1, 12);
        x.strip(2, 2, 12);
        for (int v : values) {
            for (int r = 0; r < 3; r++) {
                checks.due("put", 0, x.put(r, 11, v));
            }
            checks.due("byte " + v, (byte) v, x.told(0, 11));
            checks.due("short " + v, (short) v, x.told(1, 11));
            checks.due("int " + v, v, x.told(2, 11));
        }
        x.put(2, 0, 5);
        x.put(2, 1, 6);
        checks.due("only that place", 5, x.told(2, 0));
        checks.due("only that place", 6, x.told(2, 1));
        checks.due("only that place", 0, x.told(2, 2));
    }

    private void putRefused() {
        LakeRelief x = Reliefs.stripsOf(Reliefs.row(4, 5));
        x.strip(1, 0, 0);
        for (int r : EXTREMES) {
            checks.due("put beyond the strips", LakeRelief.BAD, x.put(r, -1, 1));
        }
        checks.due("put in none", NULL, x.put(2, -1, 1));
        for (int i : new int[] {Integer.MIN_VALUE, -1, 2, 12, Integer.MAX_VALUE}) {
            checks.due("put beyond", INDEX, x.put(0, i, 1));
        }
        checks.due("put in an empty one", INDEX, x.put(1, 0, 1));
        checks.due("nothing changed", 4, x.told(0, 0));
        checks.due("nothing changed", 5, x.told(0, 1));
    }

    private void copy() {
        LakeRelief x = Reliefs.stripsOf(Reliefs.row(1, 2, 3, 4), Reliefs.row(9, 9, 9, 9, 9));
        checks.due("copy", 0, x.copy(0, 1, 1, 2, 3));
        long[] want = {9, 9, 2, 3, 4};
        for (int i = 0; i < 5; i++) {
            checks.due("copied " + i, want[i], x.told(1, i));
        }
        checks.due("from stays", 1, x.told(0, 0));
        checks.due("copy nothing at the ends", 0, x.copy(0, 4, 1, 5, 0));
        checks.due("copy all", 0, x.copy(0, 0, 1, 0, 4));
        checks.due("copied first", 1, x.told(1, 0));
        checks.due("behind it stays", 4, x.told(1, 4));
        x.strip(2, 0, 0);
        x.strip(3, 0, 2);
        checks.due("copy of an empty one", 0, x.copy(2, 0, 3, 0, 0));
        checks.due("copy beyond an empty one", INDEX, x.copy(3, 0, 2, 0, 1));
    }

    private void copyOverlapping() {
        LakeRelief x = Reliefs.stripsOf(Reliefs.row(1, 2, 3, 4, 5));
        checks.due("copy up", 0, x.copy(0, 0, 0, 1, 4));
        long[] up = {1, 1, 2, 3, 4};
        for (int i = 0; i < 5; i++) {
            checks.due("copied up " + i, up[i], x.told(0, i));
        }
        checks.due("copy down", 0, x.copy(0, 2, 0, 1, 3));
        long[] down = {1, 2, 3, 4, 4};
        for (int i = 0; i < 5; i++) {
            checks.due("copied down " + i, down[i], x.told(0, i));
        }
    }

    private void copyRefused() {
        LakeRelief x = Reliefs.stripsOf(Reliefs.row(1, 2, 3));
        x.strip(1, 0, 3);
        x.strip(2, 1, 3);
        for (int r : EXTREMES) {
            checks.due("copy from beyond", LakeRelief.BAD, x.copy(r, 0, 3, 0, -1));
            checks.due("copy to beyond", LakeRelief.BAD, x.copy(3, 0, r, 0, -1));
        }
        checks.due("copy from none", NULL, x.copy(3, 0, 0, 0, -1));
        checks.due("copy to none", NULL, x.copy(0, 0, 3, 0, 9));
        checks.due("copy of none to itself", NULL, x.copy(3, 0, 3, 0, 0));
        checks.due("ints to bytes", STORE, x.copy(0, 0, 1, 0, 1));
        checks.due("bytes to shorts", STORE, x.copy(1, -1, 2, 0, 1));
        checks.due("shorts to ints", STORE, x.copy(2, 0, 0, 0, 0));
        checks.due("nothing changed", 1, x.told(0, 0));
        checks.due("nothing changed", 0, x.told(1, 0));
    }

    private void copyRefusedAtEdges() {
        LakeRelief x = Reliefs.stripsOf(Reliefs.row(1, 2, 3), Reliefs.row(7, 8));
        int most = Integer.MAX_VALUE;
        int least = Integer.MIN_VALUE;
        int[][] runs = {{-1, 0, 0}, {0, -1, 0}, {0, 0, -1}, {4, 0, 0}, {0, 3, 0}, {0, 0, 3}, {2, 0, 2}, {0, 1, 2},
            {most, 0, most}, {0, most, most}, {1, 0, most}, {0, 1, most}, {most, 0, 1}, {0, most, 1},
            {least, 0, 1}, {0, least, 1}, {0, 0, least}, {least, least, least}, {-1, -1, 2}};
        for (int[] run : runs) {
            checks.due("copy beyond", INDEX, x.copy(0, run[0], 1, run[1], run[2]));
        }
        checks.due("nothing changed", 7, x.told(1, 0));
        checks.due("nothing changed", 8, x.told(1, 1));
        checks.due("copy up to both ends", 0, x.copy(0, 1, 1, 0, 2));
        checks.due("copied", 2, x.told(1, 0));
        checks.due("copied", 3, x.told(1, 1));
    }

    private void told() {
        LakeRelief x = Reliefs.stripsOf(Reliefs.row(4, Integer.MIN_VALUE));
        checks.due("told", 4, x.told(0, 0));
        checks.due("told", Integer.MIN_VALUE, x.told(0, 1));
        for (int r : EXTREMES) {
            checks.due("told beyond the strips", TOLD_BAD, x.told(r, -1));
        }
        checks.due("told of none", TOLD_NULL, x.told(1, -1));
        for (int i : new int[] {Integer.MIN_VALUE, -1, 2, 12, Integer.MAX_VALUE}) {
            checks.due("told beyond", TOLD_INDEX, x.told(0, i));
        }
    }
}
