/** A sea that rises, and islands: promises 15 and 16. */
public final class SeaTest {
    private static final int BAD = LakeRelief.BAD, NO = LakeRelief.NO;
    private static final int LEAST = Integer.MIN_VALUE, GREATEST = Integer.MAX_VALUE;

    private final Checks checks = new Checks();

    public static void main(String[] args) throws ReflectiveOperationException {
        SeaTest test = new SeaTest();
        test.checks.runAll(test);
    }

    private void rises(LakeRelief x, int[] levels, int... want) {
        for (int k = 0; k < levels.length; k++) {
            checks.due("rise(" + levels[k] + ")", want[k], x.rise(levels[k]));
        }
    }

    private void islandsAt(LakeRelief x, int[] levels, int... want) {
        for (int k = 0; k < levels.length; k++) {
            checks.due("islands(" + levels[k] + ")", want[k], x.islands(levels[k]));
        }
    }

    private static int[] at(int... levels) {
        return levels;
    }

    @Says(in = "Terms", words = "RISING to a level, the sea comes to a FIELD whose FILL is below it.")
    void seaComesWhereFillIsBelow() {
        rises(Reliefs.stairs(), at(0, 3, 4, 5, 6, 7, 9, 10), 0, 0, 0, 2, 2, 4, 4, 15);
        rises(Reliefs.trough(), at(-2, 0, 5, 6), 0, 0, 0, 12);
        LakeRelief shore = Reliefs.laid(Reliefs.row(4), Reliefs.row(5));
        rises(shore, at(4, 5, 6), 0, 1, 2);
        LakeRelief gap = Reliefs.laid(Reliefs.row(9, 9, 9, 9), Reliefs.row(9, 1, 3), Reliefs.row(9, 9, 9, 9));
        rises(gap, at(1, 2, 3, 4, 9, 10), 0, 0, 0, 2, 2, 11);
    }

    @Says(in = "Terms", words = "ISLANDS then are the rest of the FIELDS that are no SEA, as they hang together.")
    void islandsHangTogether() {
        LakeRelief corners = Reliefs.laid(
            Reliefs.row(5, 1, 5, 2),
            Reliefs.row(1, 5, 1, 5),
            Reliefs.row(5, 5, 1));
        islandsAt(corners, at(0, 2, 3, 5, 6), 1, 3, 4, 4, 0);
        LakeRelief apart = Reliefs.laid(Reliefs.row(5, 5, 5), null, Reliefs.row(5, 5, 5));
        islandsAt(apart, at(-1000000, 5, 6), 2, 2, 0);
        LakeRelief lines = Reliefs.laid(Reliefs.row(1, 1, 5), Reliefs.row(5, 1, 1));
        islandsAt(lines, at(1, 2), 1, 2);
        LakeRelief hook = Reliefs.laid(
            Reliefs.row(5, 1, 5, 1, 5),
            Reliefs.row(5, 1, 5, 1, 5),
            Reliefs.row(5, 5, 5, 1, 5));
        islandsAt(hook, at(1, 2), 1, 2);
        islandsAt(Reliefs.trough(), at(0, 5), 1, 1);
        LakeRelief winding = Reliefs.laid(
            Reliefs.row(5, 5, 5, 5, 5, 5, 5, 5),
            Reliefs.row(1, 1, 1, 1, 1, 1, 1, 5),
            Reliefs.row(5, 5, 5, 5, 5, 5, 1, 5),
            Reliefs.row(5, 1, 1, 1, 1, 5, 1, 5),
            Reliefs.row(5, 1, 5, 5, 1, 5, 1, 5),
            Reliefs.row(5, 1, 5, 1, 1, 5, 1, 5),
            Reliefs.row(5, 1, 5, 5, 5, 5, 1, 5),
            Reliefs.row(5, 1, 1, 1, 1, 1, 1, 5));
        islandsAt(winding, at(1, 2), 1, 2);
        winding.put(1, 0, 5);
        winding.lay(8, 8);
        islandsAt(winding, at(2), 1);
    }

    @Says(in = "Terms", words = "as they hang together.")
    void eachFieldCanBeAnIsland() {
        for (int f = 1; f < 64; f++) {
            int[][] rows = new int[8][8];
            rows[0][0] = 5;
            rows[f / 8][f % 8] = 5;
            checks.due("islands at 0 and " + f, f == 1 || f == 8 ? 1 : 2, Reliefs.laid(rows).islands(1));
        }
    }

    @Says(in = "Promise 15", words = "RISING to a level (-1000000 to 1000001):")
    void riseFromTheDeepestToAboveTheHighest() {
        LakeRelief x = Reliefs.laid(Reliefs.row(1000000, -1000000), Reliefs.row(5));
        rises(x, at(-1000001, -1000000, -999999, 5, 6, 1000000, 1000001, 1000002),
            BAD, 0, 1, 1, 2, 2, 3, BAD);
    }

    @Says(in = "Promise 15", words = "to how many FIELDS the sea comes.")
    void riseTellsHowMany() {
        rises(Reliefs.sea(8, 8), at(-1000000, 0, 1000001), 0, 0, 0);
        rises(Reliefs.chequered(), at(999999, 1000000, 1000001), 0, 0, 64);
        LakeRelief x = Reliefs.stairs();
        x.pour(6, 100);
        rises(x, at(7, 7, 5), 4, 4, 2);
        checks.due("no grain goes with it", 5, x.count(5));
        checks.due("no field is sea by it", 0, x.field(9, 0));
    }

    @Says(in = "Promise 15", words = "BAD;")
    void riseRefused() {
        rises(Reliefs.trough(), at(LEAST, -1000001, 1000002, GREATEST), BAD, BAD, BAD, BAD);
        rises(Reliefs.sea(1, 1), at(LEAST, -1000001, 1000002, GREATEST), BAD, BAD, BAD, BAD);
    }

    @Says(in = "Promise 15", words = "NO.")
    void riseOnNoRelief() {
        rises(new LakeRelief(), at(0, -1000001, 1000002), NO, NO, NO);
    }

    @Says(in = "Promise 16", words = "How many ISLANDS are left then.")
    void islandsAreLeft() {
        islandsAt(Reliefs.sea(8, 8), at(-1000000, 0, 1000001), 0, 0, 0);
        LakeRelief x = Reliefs.laid(Reliefs.row(1000000, -1000000), Reliefs.row(5));
        islandsAt(x, at(-1000000, -999999, 6, 1000000, 1000001), 1, 1, 1, 1, 0);
        LakeRelief bars = Reliefs.laid(Reliefs.row(1, 0, 1, 0, 1, 0, 1, 0), Reliefs.row(0, 1, 0, 1, 0, 1, 0, 1));
        islandsAt(bars, at(0, 1, 2), 1, 8, 0);
        LakeRelief hollows = Reliefs.laid(
            Reliefs.row(1, 0, 1, 0),
            Reliefs.row(0, 1, 0, 1),
            Reliefs.row(1, 0, 1, 0),
            Reliefs.row(0, 1, 0, 1));
        islandsAt(hollows, at(0, 1, 2), 1, 3, 0);
        LakeRelief wet = Reliefs.trough();
        wet.pour(5, 100);
        islandsAt(wet, at(5, 6, 5), 1, 0, 1);
    }

    @Says(in = "Promise 16", words = "BAD;")
    void islandsRefused() {
        islandsAt(Reliefs.trough(), at(LEAST, -1000001, 1000002, GREATEST), BAD, BAD, BAD, BAD);
        islandsAt(Reliefs.sea(1, 1), at(LEAST, -1000001, 1000002, GREATEST), BAD, BAD, BAD, BAD);
    }

    @Says(in = "Promise 16", words = "NO.")
    void islandsOfNoRelief() {
        islandsAt(new LakeRelief(), at(0, -1000001, 1000002), NO, NO, NO);
    }
}
