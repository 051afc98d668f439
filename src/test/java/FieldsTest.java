/** Promises 6 to 8: lay, field, hollow. */
public final class FieldsTest {
    private static final int BAD = LakeRelief.BAD, NONE = LakeRelief.NONE, SEA = LakeRelief.SEA;
    private static final int FIELD_BAD = -2000001;

    private final Checks checks = new Checks();

    public static void main(String[] args) {
        FieldsTest test = new FieldsTest();
        test.layAsStripsAreThen();
        test.layWithSea();
        test.layRefused();
        test.layHeights();
        test.layAnew();
        test.downAndWay();
        test.downOfLikeHeights();
        test.fill();
        test.fieldOfSea();
        test.lakeOfField();
        test.fieldRefused();
        test.hollows();
        test.checks.end();
    }

    private void layAsStripsAreThen() {
        LakeRelief x = Reliefs.stripsOf(Reliefs.row(1, 2, 3), Reliefs.row(4, 5, 6));
        checks.due("lay", 6, x.lay(3, 2));
        x.put(0, 0, 99);
        x.strip(1, -1, 0);
        for (int f = 0; f < 6; f++) {
            checks.due("height of " + f, f + 1, x.field(f, 1));
            checks.due("no sea at " + f, 0, x.field(f, 0));
        }
        checks.due("lay less", 2, x.lay(2, 1));
        checks.due("height anew", 99, x.field(0, 1));
        checks.due("fields", 2, x.count(0));
        checks.due("lay whole", 3, x.lay(8, 8));
        checks.due("fields", 64, x.count(0));
        checks.due("no sea", 3, x.count(1));
        checks.due("line of the strip that is gone", 1, x.field(8, 0));
    }

    private void layWithSea() {
        LakeRelief x = Reliefs.stripsOf(Reliefs.row(1, 2), null, Reliefs.row(), Reliefs.row(5, 6, 7, 8));
        checks.due("lay", 5, x.lay(3, 4));
        int[] sea = {0, 0, 1, 1, 1, 1, 1, 1, 1, 0, 0, 0};
        for (int f = 0; f < 12; f++) {
            checks.due("sea at " + f, sea[f], x.field(f, 0));
        }
        checks.due("height in the last line", 7, x.field(11, 1));
        LakeRelief longer = Reliefs.stripsOf(Reliefs.row(1, 2, 3, 4));
        checks.due("what is beyond the width is not laid", 3, longer.lay(3, 2));
        checks.due("nor in the next line", 1, longer.field(3, 0));
    }

    private void layRefused() {
        LakeRelief x = Reliefs.stripsOf(Reliefs.row(1, 2));
        checks.due("lay", 2, x.lay(2, 1));
        x.put(0, 0, 9);
        for (int side : new int[] {Integer.MIN_VALUE, -1, 0, 9, Integer.MAX_VALUE}) {
            checks.due("lay a width", BAD, x.lay(side, 1));
            checks.due("lay a height", BAD, x.lay(1, side));
        }
        checks.due("the one that is laid stays", 1, x.field(0, 1));
        LakeRelief fresh = new LakeRelief();
        checks.due("lay ahead of all", BAD, fresh.lay(0, 1));
        checks.due("still none", LakeRelief.NO, fresh.count(0));
    }

    private void layHeights() {
        LakeRelief x = Reliefs.stripsOf(Reliefs.row(1000000, -1000000, 1000001), Reliefs.row(0, -1000001));
        checks.due("lay what may be", 2, x.lay(2, 1));
        checks.due("highest", 1000000, x.field(0, 1));
        checks.due("deepest", -1000000, x.field(1, 1));
        x.pour(0, 3);
        checks.due("lay too high", BAD, x.lay(3, 1));
        checks.due("lay too deep", BAD, x.lay(2, 2));
        checks.due("the one that is laid stays", 2, x.count(0));
        checks.due("its water stays", 3, x.count(7));
        checks.due("what is not in the grid counts for nothing", 2, x.lay(1, 2));
        x.put(1, 0, Integer.MIN_VALUE);
        checks.due("lay far too deep", BAD, x.lay(1, 2));
        x.put(1, 0, Integer.MAX_VALUE);
        checks.due("lay far too high", BAD, x.lay(1, 2));
    }

    private void layAnew() {
        LakeRelief x = Reliefs.star();
        x.pour(12, 1000);
        x.pour(0, 5);
        checks.due("lakes there", 1, x.count(4));
        checks.due("lay anew", 25, x.lay(5, 5));
        checks.due("water", 0, x.count(5));
        checks.due("gone", 0, x.count(6));
        checks.due("poured", 0, x.count(7));
        checks.due("lakes there", 4, x.count(4));
        checks.due("the last double is not there", 0, x.lake(6, 8));
        checks.due("its first part is", 1, x.lake(0, 8));
    }

    private void downAndWay() {
        LakeRelief x = Reliefs.laid(
            Reliefs.row(9, 9, 9, 9, 9, 9),
            Reliefs.row(9, 4, 5, 6, 1, 9),
            Reliefs.row(9, 3, 8, 7, 2, 9),
            Reliefs.row(9, 9, 9, 9, 9, 9));
        int[] fields = {7, 8, 9, 10, 13, 14, 15, 16};
        int[] downs = {13, 7, 10, NONE, NONE, 13, 16, 10};
        int[] ends = {13, 13, 10, 10, 13, 13, 10, 10};
        for (int k = 0; k < fields.length; k++) {
            checks.due("down of " + fields[k], downs[k], x.field(fields[k], 2));
            checks.due("end of " + fields[k], ends[k], x.field(fields[k], 3));
        }
        checks.due("down at the edge", SEA, x.field(0, 2));
        checks.due("end at the edge", SEA, x.field(17, 3));
        LakeRelief sloping = Reliefs.laid(Reliefs.row(9, 9, 9, 9), Reliefs.row(9, 5, 4, 3), Reliefs.row(9, 9, 9, 9));
        checks.due("down towards the edge", 6, sloping.field(5, 2));
        checks.due("end is sea", SEA, sloping.field(5, 3));
    }

    private void downOfLikeHeights() {
        LakeRelief x = Reliefs.laid(
            Reliefs.row(7, 7, 7, 7),
            Reliefs.row(7, 7, 7, 7),
            Reliefs.row(7, 7, 7, 7),
            Reliefs.row(7, 7, 7, 7));
        checks.due("the lesser number, above", 1, x.field(5, 2));
        checks.due("the lesser number, above the right one", 2, x.field(6, 2));
        checks.due("the lesser number, above in the next line", 5, x.field(9, 2));
        checks.due("ends in sea", SEA, x.field(10, 3));
        checks.due("no hollow", NONE, x.hollow(0));
        LakeRelief flat = Reliefs.flat();
        checks.due("down of the like rim", 6, flat.field(10, 2));
        checks.due("down of the corner", 6, flat.field(5, 2));
        checks.due("a hollow beside a like one", NONE, flat.field(9, 2));
    }

    private void fill() {
        LakeRelief x = Reliefs.stairs();
        checks.due("fill behind two rims", 6, x.field(6, 4));
        checks.due("fill of the rim", 6, x.field(7, 4));
        checks.due("fill behind one rim", 4, x.field(8, 4));
        checks.due("fill of the gap", 4, x.field(9, 4));
        checks.due("fill of the edge", 9, x.field(5, 4));
        LakeRelief winding = Reliefs.laid(
            Reliefs.row(9, 9, 9, 9, 9, 9),
            Reliefs.row(9, 2, 3, 4, 2, 9),
            Reliefs.row(9, 9, 9, 8, 5, 9),
            Reliefs.row(9, 1, 6, 2, 3, 9),
            Reliefs.row(9, 7, 9, 9, 9, 9),
            Reliefs.row(9, 0, 9, 9, 9, 9));
        int[] fields = {7, 8, 9, 10, 15, 16, 19, 20, 21, 22, 25, 31};
        int[] fills = {7, 7, 7, 7, 8, 7, 7, 7, 7, 7, 7, 0};
        for (int k = 0; k < fields.length; k++) {
            checks.due("fill on the winding way of " + fields[k], fills[k], winding.field(fields[k], 4));
        }
        LakeRelief hole = Reliefs.laid(Reliefs.row(9, 9, 9), Reliefs.row(9), Reliefs.row(9, 9, 9));
        checks.due("fill beside sea in the grid", 9, hole.field(1, 4));
    }

    private void fieldOfSea() {
        LakeRelief x = Reliefs.laid(Reliefs.row(1, 2), null);
        int[] want = {1, 0, 0, 0, 0, NONE};
        for (int what = 0; what < 6; what++) {
            checks.due("of sea " + what, want[what], x.field(2, what));
        }
    }

    private void lakeOfField() {
        LakeRelief x = Reliefs.star();
        checks.due("lake at a hollow", 1, x.field(7, 5));
        checks.due("none yet at the rim", NONE, x.field(12, 5));
        checks.due("none at the edge", NONE, x.field(2, 5));
        x.pour(12, 1000);
        checks.due("the double at a hollow", 6, x.field(7, 5));
        checks.due("the double at the rim", 6, x.field(12, 5));
        checks.due("none at the edge", NONE, x.field(2, 5));
        LakeRelief trough = Reliefs.trough();
        checks.due("lake at a field that is no hollow, dry", 0, trough.field(6, 5));
    }

    private void fieldRefused() {
        LakeRelief x = Reliefs.trough();
        for (int f : new int[] {Integer.MIN_VALUE, -5, -1, 12, 63, 64, Integer.MAX_VALUE}) {
            checks.due("field beyond", FIELD_BAD, x.field(f, 1));
        }
        for (int what : new int[] {Integer.MIN_VALUE, -1, 6, Integer.MAX_VALUE}) {
            checks.due("field asked for nothing", FIELD_BAD, x.field(0, what));
        }
        LakeRelief sea = new LakeRelief();
        sea.lay(1, 1);
        checks.due("sea asked for nothing", FIELD_BAD, sea.field(0, 6));
    }

    private void hollows() {
        LakeRelief x = Reliefs.star();
        int[] want = {7, 11, 13, 17, NONE, NONE};
        for (int i = 0; i < want.length; i++) {
            checks.due("hollow " + i, want[i], x.hollow(i));
        }
        checks.due("far beyond", NONE, x.hollow(Integer.MAX_VALUE));
        checks.due("below 0", BAD, x.hollow(-1));
        checks.due("far below 0", BAD, x.hollow(Integer.MIN_VALUE));
        checks.due("how many", 4, x.count(2));
    }
}
