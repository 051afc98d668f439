/** Promises 13 to 17: pour, level, rise, islands, count. */
public final class WaterTest {
    private static final int BAD = LakeRelief.BAD;
    private static final int LEVEL_BAD = -2000001;

    private final Checks checks = new Checks();

    public static void main(String[] args) {
        WaterTest test = new WaterTest();
        test.pourStepByStep();
        test.pourAtOnce();
        test.pourToSea();
        test.pourOverRimToSea();
        test.pourWithNoRoom();
        test.pourNothing();
        test.pourRefused();
        test.levels();
        test.levelsOfOthers();
        test.levelRefused();
        test.rise();
        test.islands();
        test.seaLevelRefused();
        test.counts();
        test.checks.end();
    }

    private void waters(String when, LakeRelief x, int... want) {
        for (int l = 0; l < want.length; l++) {
            checks.due(when + ": water of " + l, Math.max(want[l], 0), x.lake(l, 9));
            checks.due(when + ": there " + l, want[l] < 0 ? 0 : 1, x.lake(l, 8));
        }
    }

    private void pourStepByStep() {
        LakeRelief x = Reliefs.star();
        checks.due("fill one", 0, x.pour(13, 2));
        waters("one full", x, 0, 0, 0, 2, -1, -1, -1);
        checks.due("over the rim to the lowest", 0, x.pour(13, 1));
        waters("over", x, 1, 0, 0, 2, -1, -1, -1);
        checks.due("more", 0, x.pour(13, 4));
        waters("two full", x, 5, 0, 0, 2, -1, -1, -1);
        checks.due("over two rims", 0, x.pour(13, 1));
        waters("over two", x, 5, 1, 0, 2, -1, -1, -1);
        checks.due("fill the third", 0, x.pour(13, 3));
        waters("three full, none joined", x, 5, 4, 0, 2, -1, -1, -1);
        checks.due("join and go over", 0, x.pour(13, 1));
        waters("first double", x, -1, -1, 1, 2, 9, -1, -1);
        checks.due("fill the fourth", 0, x.pour(11, 2));
        waters("all full", x, -1, -1, 3, 2, 9, -1, -1);
        checks.due("join twice", 0, x.pour(11, 1));
        waters("last double", x, -1, -1, -1, -1, -1, -1, 15);
        checks.due("over to sea", 11, x.pour(12, 30));
        waters("brimful", x, -1, -1, -1, -1, -1, -1, 34);
    }

    private void pourAtOnce() {
        LakeRelief x = Reliefs.star();
        checks.due("all at once", 0, x.pour(13, 15));
        waters("at once", x, -1, -1, -1, -1, -1, -1, 15);
        LakeRelief y = Reliefs.star();
        checks.due("to the brim, no more", 0, y.pour(12, 34));
        checks.due("one more", 1, y.pour(12, 1));
        LakeRelief z = Reliefs.star();
        checks.due("a whole lot", 1000000 - 34, z.pour(7, 1000000));
    }

    private void pourToSea() {
        LakeRelief x = Reliefs.laid(Reliefs.row(9, 9, 9, 9), Reliefs.row(9, 1, 9), Reliefs.row(9, 9, 9));
        checks.due("at the edge", 7, x.pour(0, 7));
        checks.due("in the sea", 8, x.pour(7, 8));
        checks.due("no water", 0, x.count(5));
        checks.due("gone", 15, x.count(6));
    }

    // What goes to SEA over a rim comes to no other lake, even where one lies beside that rim.
    private void pourOverRimToSea() {
        LakeRelief x = Reliefs.stairs();
        checks.due("over the upper rim", 2, x.pour(6, 7));
        waters("upper", x, 5, 0);
        checks.due("on the rim between", 3, x.pour(7, 3));
        waters("still", x, 5, 0);
        checks.due("over the lower rim", 1, x.pour(8, 3));
        waters("lower", x, 5, 2);
    }

    private void pourWithNoRoom() {
        LakeRelief x = Reliefs.flat();
        checks.due("nothing left to go over", 0, x.pour(6, 0));
        waters("dry", x, 0, 0, -1);
        checks.due("one grain joins", 0, x.pour(9, 1));
        waters("joined", x, -1, -1, 1);
        LakeRelief y = Reliefs.laid(
            Reliefs.row(3, 3, 3, 3),
            Reliefs.row(9, 9, 3, 3),
            Reliefs.row(9, 3, 3, 3),
            Reliefs.row(9, 9, 3, 3));
        checks.due("no hollow where it is level with the edge", 0, y.ground(0, 6));
        checks.due("that one lake", 9, y.lake(0, 1));
        checks.due("can hold nothing", 0, y.lake(0, 7));
        checks.due("all to sea", 4, y.pour(9, 4));
        waters("nothing", y, 0);
    }

    private void pourNothing() {
        LakeRelief x = Reliefs.star();
        x.pour(17, 5);
        x.pour(7, 4);
        checks.due("nothing poured joins nothing", 0, x.pour(17, 0));
        waters("apart", x, 5, 4, 0, 0, -1, -1, -1);
        checks.due("poured", 9, x.count(7));
    }

    private void pourRefused() {
        LakeRelief x = Reliefs.trough();
        for (int f : new int[] {Integer.MIN_VALUE, -5, -1, 12, 64, Integer.MAX_VALUE}) {
            checks.due("pour beyond", BAD, x.pour(f, 1));
        }
        for (int n : new int[] {Integer.MIN_VALUE, -1, 1000001, Integer.MAX_VALUE}) {
            checks.due("pour a number", BAD, x.pour(5, n));
        }
        checks.due("nothing poured", 0, x.count(7));
        checks.due("nothing there", 0, x.count(5));
        checks.due("the most", 1000000 - 14, x.pour(5, 1000000));
    }

    private void levels() {
        LakeRelief x = Reliefs.trough();
        int[][] want = {{-3, 1}, {-2, 1}, {-1, 1}, {-1, 2}, {0, 1}, {1, 2}, {1, 1}, {3, 2}, {2, 1}, {5, 2}, {3, 1},
            {7, 2}, {4, 1}, {9, 2}, {5, 1}, {5, 1}};
        for (int water = 0; water < want.length; water++) {
            checks.due("above, water " + water, want[water][0], x.level(0, 0));
            checks.due("below, water " + water, want[water][1], x.level(0, 1));
            x.pour(5, 1);
        }
    }

    private void levelsOfOthers() {
        LakeRelief x = Reliefs.star();
        x.pour(13, 15);
        checks.due("above", 26, x.level(6, 0));
        checks.due("below", 5, x.level(6, 1));
        LakeRelief flat = Reliefs.flat();
        checks.due("no room, above", 3, flat.level(0, 0));
        checks.due("no room, below", 1, flat.level(0, 1));
        flat.pour(6, 1);
        checks.due("thirds, above", 10, flat.level(2, 0));
        checks.due("thirds, below", 3, flat.level(2, 1));
        LakeRelief deep = Reliefs.laid(
            Reliefs.row(1000000, 1000000, 1000000),
            Reliefs.row(1000000, -1000000, 1000000),
            Reliefs.row(1000000, 1000000, 1000000));
        checks.due("deep, dry", -1000000, deep.level(0, 0));
        deep.pour(4, 1000000);
        checks.due("deep, half, above", 0, deep.level(0, 0));
        checks.due("deep, half, below", 1, deep.level(0, 1));
        deep.pour(4, 1000000);
        checks.due("deep, full", 1000000, deep.level(0, 0));
    }

    private void levelRefused() {
        LakeRelief x = Reliefs.star();
        for (int l : new int[] {Integer.MIN_VALUE, -1, 7, Integer.MAX_VALUE}) {
            checks.due("level of no lake", LEVEL_BAD, x.level(l, 0));
        }
        for (int what : new int[] {Integer.MIN_VALUE, -1, 2, Integer.MAX_VALUE}) {
            checks.due("level asked for nothing", LEVEL_BAD, x.level(0, what));
        }
        checks.due("a double that is not there", LEVEL_BAD, x.level(6, 0));
        x.pour(12, 20);
        checks.due("a part that is gone", LEVEL_BAD, x.level(0, 0));
        checks.due("the double that is there", 1, x.level(6, 1) > 0 ? 1 : 0);
    }

    private void rise() {
        LakeRelief x = Reliefs.stairs();
        int[] levels = {-1000000, 0, 1, 4, 5, 6, 7, 9, 10, 1000001};
        int[] comes = {0, 0, 0, 0, 2, 2, 4, 4, 15, 15};
        for (int k = 0; k < levels.length; k++) {
            checks.due("rise to " + levels[k], comes[k], x.rise(levels[k]));
        }
        x.pour(6, 100);
        checks.due("water changes nothing", 4, x.rise(7));
        LakeRelief high = Reliefs.laid(Reliefs.row(1000000, -1000000), Reliefs.row(5));
        checks.due("above all", 3, high.rise(1000001));
        checks.due("up to all", 2, high.rise(1000000));
        checks.due("below all", 0, high.rise(-1000000));
        checks.due("above the deepest", 1, high.rise(-999999));
    }

    private void islands() {
        LakeRelief x = Reliefs.stairs();
        int[] levels = {-1000000, 5, 7, 9, 10};
        int[] left = {1, 1, 1, 1, 0};
        for (int k = 0; k < levels.length; k++) {
            checks.due("islands at " + levels[k], left[k], x.islands(levels[k]));
        }
        LakeRelief corners = Reliefs.laid(
            Reliefs.row(5, 1, 5, 2),
            Reliefs.row(1, 5, 1, 5),
            Reliefs.row(5, 5, 1));
        checks.due("as it is", 1, corners.islands(0));
        checks.due("some hang together", 3, corners.islands(2));
        checks.due("corners do not hang together", 4, corners.islands(3));
        checks.due("none", 0, corners.islands(6));
        LakeRelief apart = Reliefs.laid(Reliefs.row(5, 5, 5), null, Reliefs.row(5, 5, 5));
        checks.due("apart from the first", 2, apart.islands(-1000000));
        LakeRelief lines = Reliefs.laid(Reliefs.row(1, 1, 5), Reliefs.row(5, 1, 1));
        checks.due("the end of a line is not beside the next one's start", 2, lines.islands(2));
        LakeRelief hook = Reliefs.laid(
            Reliefs.row(5, 1, 5, 1, 5),
            Reliefs.row(5, 1, 5, 1, 5),
            Reliefs.row(5, 5, 5, 1, 5));
        checks.due("around a bight", 2, hook.islands(2));
        checks.due("a hollow that stays dry is land", 1, Reliefs.trough().islands(5));
    }

    private void seaLevelRefused() {
        LakeRelief x = Reliefs.trough();
        for (int level : new int[] {Integer.MIN_VALUE, -1000001, 1000002, Integer.MAX_VALUE}) {
            checks.due("rise to " + level, BAD, x.rise(level));
            checks.due("islands at " + level, BAD, x.islands(level));
        }
    }

    private void countsAre(String when, LakeRelief x, long... want) {
        for (int what = 0; what < want.length; what++) {
            checks.due(when + ": count(" + what + ")", want[what], x.count(what));
        }
    }

    private void counts() {
        LakeRelief x = Reliefs.star();
        countsAre("dry", x, 25, 25, 4, 7, 4, 0, 0, 0);
        x.pour(13, 12);
        countsAre("one double", x, 25, 25, 4, 7, 3, 12, 0, 12);
        x.pour(13, 3);
        countsAre("all joined", x, 25, 25, 4, 7, 1, 15, 0, 15);
        x.pour(0, 6);
        x.pour(12, 20);
        countsAre("spilled", x, 25, 25, 4, 7, 1, 34, 7, 41);
        for (int what : new int[] {Integer.MIN_VALUE, -1, 8, Integer.MAX_VALUE}) {
            checks.due("count of nothing", BAD, x.count(what));
        }
        LakeRelief sea = Reliefs.laid(Reliefs.row(1, 1, 1), Reliefs.row(1));
        countsAre("with sea", sea, 6, 4, 0, 0, 0, 0, 0, 0);
        for (int k = 0; k < 400; k++) {
            sea.pour(5, 1000000);
        }
        countsAre("much gone", sea, 6, 4, 0, 0, 0, 0, 400000000, 400000000);
    }
}
