/** Promises 9 to 12: lake, ground, holds, area. */
public final class LakesTest {
    private static final int BAD = LakeRelief.BAD, NONE = LakeRelief.NONE, SEA = LakeRelief.SEA;
    private static final int LAKE_BAD = -2000001;

    private final Checks checks = new Checks();

    public static void main(String[] args) {
        LakesTest test = new LakesTest();
        test.fourAtOneRim();
        test.groundAtOneRim();
        test.spillBesideGroundOfTheSea();
        test.spillByRimsOfOthers();
        test.plainSpill();
        test.likeHeights();
        test.threeSteps();
        test.mostLakes();
        test.afterJoining();
        test.lakeRefused();
        test.groundRefused();
        test.holdsAndArea();
        test.holdsRefused();
        test.checks.end();
    }

    private void lakeIs(String name, LakeRelief x, int l, int... want) {
        for (int what = 0; what < want.length; what++) {
            checks.due(name + ": lake(" + l + ", " + what + ")", want[what], x.lake(l, what));
        }
    }

    private void fourAtOneRim() {
        LakeRelief x = Reliefs.star();
        checks.due("lakes", 7, x.count(3));
        lakeIs("star", x, 0, 0, 17, 12, 4, NONE, NONE, 1, 5, 1, 0);
        lakeIs("star", x, 1, 0, 7, 12, 4, NONE, NONE, 1, 4, 1, 0);
        lakeIs("star", x, 2, 0, 11, 12, 5, NONE, NONE, 1, 3, 1, 0);
        lakeIs("star", x, 3, 0, 13, 12, 6, NONE, NONE, 1, 2, 1, 0);
        lakeIs("star", x, 4, 1, 17, 12, 5, 0, 1, 2, 9, 0, 0);
        lakeIs("star", x, 5, 1, 17, 12, 6, 2, 4, 3, 12, 0, 0);
        lakeIs("star", x, 6, 1, 17, 2, SEA, 3, 5, 5, 34, 0, 0);
    }

    private void groundAtOneRim() {
        LakeRelief x = Reliefs.star();
        int[][] grounds = {{17}, {7}, {11}, {13}, {7, 17}, {7, 11, 17}, {7, 11, 12, 13, 17}};
        for (int l = 0; l < grounds.length; l++) {
            for (int f = 0; f < 25; f++) {
                checks.due("ground(" + l + ", " + f + ")", contains(grounds[l], f) ? 1 : 0, x.ground(l, f));
            }
        }
    }

    private static boolean contains(int[] fields, int f) {
        for (int g : fields) {
            if (g == f) {
                return true;
            }
        }
        return false;
    }

    private void spillBesideGroundOfTheSea() {
        LakeRelief x = Reliefs.stairs();
        checks.due("lakes", 2, x.count(3));
        lakeIs("stairs", x, 0, 0, 6, 7, SEA, NONE, NONE, 1, 5, 1, 0);
        lakeIs("stairs", x, 1, 0, 8, 9, SEA, NONE, NONE, 1, 2, 1, 0);
        LakeRelief both = Reliefs.laid(
            Reliefs.row(9, 9, 9, 9, 9),
            Reliefs.row(9, 1, 9, 2, 9),
            Reliefs.row(9, 9, 3, 9, 9));
        checks.due("two lakes that spill apart", 2, both.count(3));
        lakeIs("apart", both, 0, 0, 6, 1, SEA, NONE, NONE, 1, 8, 1, 0);
        lakeIs("apart", both, 1, 0, 8, 3, SEA, NONE, NONE, 1, 7, 1, 0);
        LakeRelief two = Reliefs.laid(
            Reliefs.row(9, 9, 9),
            Reliefs.row(9, 1, 9),
            Reliefs.row(9, 4),
            Reliefs.row(9, 2, 9),
            Reliefs.row(9, 9, 9));
        checks.due("two lakes that spill at one rim", 2, two.count(3));
        lakeIs("one rim to sea", two, 0, 0, 4, 7, SEA, NONE, NONE, 1, 3, 1, 0);
        lakeIs("one rim to sea", two, 1, 0, 10, 7, SEA, NONE, NONE, 1, 2, 1, 0);
    }

    // Each rim to SEA opens the next: 12 by the edge, 10 by 12's ground, 8 by 10's ground, 25 by 10's rim.
    private void spillByRimsOfOthers() {
        LakeRelief x = Reliefs.laid(
            Reliefs.row(20, 20, 20, 20, 20, 20, 20),
            Reliefs.row(20, 0, 8, 1, 6, 2, 4),
            Reliefs.row(20, 20, 20, 20, 7, 20, 20),
            Reliefs.row(20, 20, 20, 20, 3, 20, 20),
            Reliefs.row(20, 20, 20, 20, 20, 20, 20));
        checks.due("lakes", 4, x.count(3));
        lakeIs("by others", x, 0, 0, 8, 9, SEA, NONE, NONE, 1, 8, 1, 0);
        lakeIs("by others", x, 1, 0, 10, 11, SEA, NONE, NONE, 1, 5, 1, 0);
        lakeIs("by others", x, 2, 0, 12, 13, SEA, NONE, NONE, 1, 2, 1, 0);
        lakeIs("by others", x, 3, 0, 25, 18, SEA, NONE, NONE, 1, 4, 1, 0);
    }

    private void plainSpill() {
        LakeRelief x = Reliefs.trough();
        checks.due("lakes", 1, x.count(3));
        lakeIs("trough", x, 0, 0, 5, 1, SEA, NONE, NONE, 2, 14, 1, 0);
    }

    private void likeHeights() {
        LakeRelief x = Reliefs.flat();
        checks.due("lakes", 3, x.count(3));
        lakeIs("flat", x, 0, 0, 6, 10, 2, NONE, NONE, 1, 0, 1, 0);
        lakeIs("flat", x, 1, 0, 9, 10, 2, NONE, NONE, 1, 0, 1, 0);
        lakeIs("flat", x, 2, 1, 6, 2, SEA, 0, 1, 3, 12, 0, 0);
    }

    // 0 and 1 join at 9 (4), that double and 2 join at 11 (6); the last one spills over the edge at 14 (8).
    private void threeSteps() {
        LakeRelief x = Reliefs.laid(
            Reliefs.row(20, 20, 20, 20, 20, 20, 20),
            Reliefs.row(20, 2, 4, 1, 6, 0, 20),
            Reliefs.row(8, 7, 20, 20, 20, 20, 20),
            Reliefs.row(20, 20, 20, 20, 20, 20, 20));
        checks.due("lakes", 5, x.count(3));
        lakeIs("steps", x, 0, 0, 12, 11, 4, NONE, NONE, 1, 6, 1, 0);
        lakeIs("steps", x, 1, 0, 10, 9, 3, NONE, NONE, 1, 3, 1, 0);
        lakeIs("steps", x, 2, 0, 8, 9, 3, NONE, NONE, 1, 2, 1, 0);
        lakeIs("steps", x, 3, 1, 10, 11, 4, 1, 2, 3, 11, 0, 0);
        lakeIs("steps", x, 4, 1, 12, 14, SEA, 0, 3, 6, 28, 0, 0);
        checks.due("a field between is of the last one", 1, x.ground(4, 15));
        checks.due("the rim to sea is of none", 0, x.ground(4, 14));
    }

    // A chequered inside of six by six: 18 hollows, and as they all join, 17 doubles.
    private void mostLakes() {
        int[][] rows = new int[8][8];
        for (int r = 0; r < 8; r++) {
            for (int c = 0; c < 8; c++) {
                boolean isEdge = r == 0 || c == 0 || r == 7 || c == 7;
                rows[r][c] = isEdge ? 1000000 : (r + c) % 2 == 0 ? -1000000 : 999999;
            }
        }
        LakeRelief x = Reliefs.laid(rows);
        checks.due("hollows", 18, x.count(2));
        checks.due("lakes", 35, x.count(3));
        checks.due("ground of the last", 36, x.lake(34, 6));
        checks.due("most of the last", 18 * 2000000 + 18, x.lake(34, 7));
        checks.due("behind the last", LAKE_BAD, x.lake(35, 0));
        int gone = 0;
        for (int k = 0; k < 37; k++) {
            gone += x.pour(9, 1000000);
        }
        checks.due("gone", 37000000 - 36000018, gone);
        checks.due("lakes there", 1, x.count(4));
        checks.due("water", 36000018, x.lake(34, 9));
    }

    private void afterJoining() {
        LakeRelief x = Reliefs.star();
        x.pour(12, 20);
        lakeIs("joined", x, 6, 1, 17, 2, SEA, 3, 5, 5, 34, 1, 20);
        lakeIs("joined", x, 0, 0, 17, 12, 4, NONE, NONE, 1, 5, 0, 0);
        lakeIs("joined", x, 5, 1, 17, 12, 6, 2, 4, 3, 12, 0, 0);
        checks.due("ground of one that is gone", 1, x.ground(0, 17));
        checks.due("what one that is gone holds", 5, x.holds(0, 5));
    }

    private void lakeRefused() {
        LakeRelief x = Reliefs.star();
        for (int l : new int[] {Integer.MIN_VALUE, -5, -1, 7, 34, 35, 64, Integer.MAX_VALUE}) {
            checks.due("no such lake", LAKE_BAD, x.lake(l, 0));
        }
        for (int what : new int[] {Integer.MIN_VALUE, -1, 10, Integer.MAX_VALUE}) {
            checks.due("lake asked for nothing", LAKE_BAD, x.lake(0, what));
        }
        x.lay(1, 1);
        checks.due("lakes of the relief ahead", LAKE_BAD, x.lake(0, 0));
    }

    private void groundRefused() {
        LakeRelief x = Reliefs.star();
        for (int l : new int[] {Integer.MIN_VALUE, -1, 7, Integer.MAX_VALUE}) {
            checks.due("ground of no lake", BAD, x.ground(l, 0));
        }
        for (int f : new int[] {Integer.MIN_VALUE, -1, 25, 64, 64 + 17, Integer.MAX_VALUE}) {
            checks.due("ground of no field", BAD, x.ground(0, f));
        }
        LakeRelief sea = Reliefs.laid(Reliefs.row(9, 9, 9, 9), Reliefs.row(9, 1, 9), Reliefs.row(9, 9, 9));
        checks.due("sea is no ground", 0, sea.ground(0, 7));
    }

    private void holdsAndArea() {
        LakeRelief x = Reliefs.star();
        int[] levels = {-1000000, 0, 1, 2, 3, 4, 5, 6, 9};
        int[] holds = {0, 0, 1, 3, 6, 10, 14, 19, 34};
        int[] areas = {0, 0, 1, 2, 3, 4, 4, 5, 5};
        for (int k = 0; k < levels.length; k++) {
            checks.due("holds up to " + levels[k], holds[k], x.holds(6, levels[k]));
            checks.due("area at " + levels[k], areas[k], x.area(6, levels[k]));
        }
        checks.due("a part holds", 9, x.holds(4, 5));
        checks.due("a part's area", 2, x.area(4, 5));
        LakeRelief deep = Reliefs.laid(
            Reliefs.row(1000000, 1000000, 1000000),
            Reliefs.row(1000000, -1000000, 1000000),
            Reliefs.row(1000000, 1000000, 1000000));
        checks.due("deep holds", 2000000, deep.holds(0, 1000000));
        checks.due("deep holds none", 0, deep.holds(0, -1000000));
        checks.due("deep area", 1, deep.area(0, -999999));
    }

    private void holdsRefused() {
        LakeRelief x = Reliefs.star();
        for (int l : new int[] {Integer.MIN_VALUE, -1, 7, Integer.MAX_VALUE}) {
            checks.due("no lake holds", BAD, x.holds(l, 0));
            checks.due("no lake's area", BAD, x.area(l, 0));
        }
        for (int level : new int[] {Integer.MIN_VALUE, -1000001, 6, Integer.MAX_VALUE}) {
            checks.due("holds up to " + level, BAD, x.holds(5, level));
            checks.due("area at " + level, BAD, x.area(5, level));
        }
        checks.due("above the rim to sea", BAD, x.holds(6, 10));
        checks.due("above the rim to sea", BAD, x.area(6, 10));
    }
}
