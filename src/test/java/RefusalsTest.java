import java.util.ArrayList;
import java.util.List;

/** BAD and NO: what is refused, what is told first, and that nothing changes then. */
public final class RefusalsTest {
    private static final int BAD = LakeRelief.BAD, NO = LakeRelief.NO;
    private static final int LEAST = Integer.MIN_VALUE, GREATEST = Integer.MAX_VALUE;

    private final Checks checks = new Checks();

    public static void main(String[] args) throws ReflectiveOperationException {
        RefusalsTest test = new RefusalsTest();
        test.checks.runAll(test);
    }

    @Says(in = "Terms", words = "BAD: a number is none that is told, there is no such thing.")
    void badIsTold() {
        LakeRelief x = Reliefs.pools();
        checks.due("strip", BAD, x.strip(8, 0, 0));
        checks.due("put", BAD, x.put(8, 0, 0));
        checks.due("copy", BAD, x.copy(8, 0, 0, 0, 0));
        checks.due("told", 10000000000L - BAD, x.told(8, 0));
        checks.due("lay", BAD, x.lay(9, 3));
        checks.due("field", -2000001, x.field(15, 0));
        checks.due("hollow", BAD, x.hollow(-1));
        checks.due("lake", -2000001, x.lake(3, 0));
        checks.due("ground", BAD, x.ground(3, 0));
        checks.due("holds", BAD, x.holds(3, 0));
        checks.due("area", BAD, x.area(3, 0));
        checks.due("pour", BAD, x.pour(15, 0));
        checks.due("level", -2000001, x.level(3, 0));
        checks.due("rise", BAD, x.rise(1000002));
        checks.due("islands", BAD, x.islands(1000002));
        checks.due("count", BAD, x.count(8));
    }

    private void allTellNo(LakeRelief x) {
        for (int number : new int[] {LEAST, -1000001, -1, 0, 1, 64, 1000002, GREATEST}) {
            checks.due("field", -2000002, x.field(number, number));
            checks.due("hollow", NO, x.hollow(number));
            checks.due("lake", -2000002, x.lake(number, number));
            checks.due("ground", NO, x.ground(number, number));
            checks.due("holds", NO, x.holds(number, number));
            checks.due("area", NO, x.area(number, number));
            checks.due("pour", NO, x.pour(number, number));
            checks.due("level", -2000002, x.level(number, number));
            checks.due("rise", NO, x.rise(number));
            checks.due("islands", NO, x.islands(number));
            checks.due("count", NO, x.count(number));
        }
    }

    @Says(in = "Terms", words = "NO: no RELIEF is LAID: this is told ahead of BAD")
    void noIsToldAheadOfBad() {
        allTellNo(new LakeRelief());
        LakeRelief stripsAlone = Reliefs.stripsOf(Reliefs.row(9, 9, 9), Reliefs.row(9, 1, 9), Reliefs.row(9, 9, 9));
        allTellNo(stripsAlone);
        LakeRelief refused = Reliefs.stripsOf(Reliefs.row(9, 9, 1000001));
        refused.lay(3, 1);
        refused.lay(0, 0);
        allTellNo(refused);
    }

    @Says(in = "Terms", words = "(of calls behind lay()).")
    void callsUpToLayNeedNoRelief() {
        LakeRelief x = new LakeRelief();
        checks.due("strip, bad", BAD, x.strip(8, 0, 0));
        checks.due("strip", 0, x.strip(0, 0, 2));
        checks.due("put, bad", BAD, x.put(8, 0, 0));
        checks.due("put", 0, x.put(0, 0, 3));
        checks.due("copy, bad", BAD, x.copy(8, 0, 0, 0, 0));
        checks.due("copy", 0, x.copy(0, 0, 0, 1, 1));
        checks.due("told, bad", 10000000001L, x.told(8, 0));
        checks.due("told", 3, x.told(0, 1));
        checks.due("lay, bad", BAD, x.lay(0, 0));
        checks.due("lay", 2, x.lay(2, 1));
    }

    /** Three strips of unlike sorts and lengths, a relief that is wet, and grains gone. */
    private static LakeRelief wet() {
        LakeRelief x = Reliefs.pools();
        x.strip(3, 0, 2);
        x.put(3, 1, 77);
        x.strip(4, 1, 0);
        x.put(1, 4, GREATEST);
        x.pour(6, 5);
        x.pour(0, 3);
        return x;
    }

    /** All that an object tells. */
    private static List<Long> answers(LakeRelief x) {
        List<Long> told = new ArrayList<>();
        for (int place = 0; place < 8 * 6; place++) {
            told.add(x.told(place / 6, place % 6));
        }
        for (int what = 0; what < 8; what++) {
            told.add(x.count(what));
        }
        for (int asked = 0; asked < 15 * 6; asked++) {
            told.add((long) x.field(asked / 6, asked % 6));
        }
        for (int asked = 0; asked < 3 * 10; asked++) {
            told.add((long) x.lake(asked / 10, asked % 10));
        }
        for (int asked = 0; asked < 3 * 15; asked++) {
            told.add((long) x.ground(asked / 15, asked % 15));
        }
        for (int l = 0; l < 3; l++) {
            told.add((long) x.level(l, 0));
            told.add((long) x.level(l, 1));
        }
        return told;
    }

    private void sameAsIfNotAsked(LakeRelief asked, LakeRelief notAsked) {
        List<Long> got = answers(asked);
        List<Long> want = answers(notAsked);
        for (int k = 0; k < want.size(); k++) {
            checks.due("answer " + k, want.get(k), got.get(k));
        }
    }

    private void refusedStrips(LakeRelief x) {
        for (int bad : new int[] {LEAST, -2, 13, GREATEST}) {
            checks.holds("strip " + bad, x.strip(bad, 0, 1) < 0);
            checks.holds("strip of kind " + bad, x.strip(1, bad, 1) < 0);
            checks.holds("strip of " + bad, x.strip(1, 0, bad) < 0);
            checks.holds("put in " + bad, x.put(bad, 0, 9) < 0);
            checks.holds("put at " + bad, x.put(1, bad, 9) < 0);
            checks.holds("copy from " + bad, x.copy(bad, 0, 1, 0, 1) < 0);
            checks.holds("copy to " + bad, x.copy(1, 0, bad, 0, 1) < 0);
            checks.holds("copy at " + bad, x.copy(1, bad, 0, 0, 1) < 0);
            checks.holds("copy on to " + bad, x.copy(1, 0, 0, bad, 1) < 0);
            checks.holds("copy of " + bad, x.copy(1, 0, 0, 0, bad) < 0);
        }
        checks.due("copy that goes beyond by one", -12, x.copy(1, 1, 0, 0, 5));
        checks.due("copy to another sort", -14, x.copy(1, 0, 3, 0, 1));
        checks.due("copy to a missing one", -11, x.copy(1, 0, 7, 0, 1));
        checks.due("put in a missing one", -11, x.put(7, 0, 1));
    }

    @Says(in = "Terms", words = "Nothing changes then.")
    void refusedStripsChangeNothing() {
        LakeRelief x = wet();
        refusedStrips(x);
        sameAsIfNotAsked(x, wet());
    }

    @Says(in = "Terms", words = "Nothing changes then.")
    void refusedWaterChangesNothing() {
        LakeRelief x = wet();
        for (int bad : new int[] {LEAST, -1, 15, 1000002, GREATEST}) {
            checks.holds("pour at " + bad, x.pour(bad, 1) < 0);
            checks.holds("lay wide " + bad, x.lay(bad, 3) < 0);
            checks.holds("lay high " + bad, x.lay(5, bad) < 0);
        }
        for (int bad : new int[] {LEAST, -1, 1000001, GREATEST}) {
            checks.holds("pour of " + bad, x.pour(6, bad) < 0);
        }
        checks.due("lay of a height that may not be", BAD, x.lay(5, 3));
        sameAsIfNotAsked(x, wet());
    }

    @Says(in = "Terms", words = "Nothing changes then.")
    void questionsChangeNothing() {
        LakeRelief x = wet();
        for (int number : new int[] {LEAST, -1, 0, 2, 64, 1000002, GREATEST}) {
            x.told(number, number);
            x.field(number, number);
            x.hollow(number);
            x.lake(number, number);
            x.ground(number, number);
            x.holds(number, number);
            x.area(number, number);
            x.level(number, number);
            x.rise(number);
            x.islands(number);
            x.count(number);
        }
        sameAsIfNotAsked(x, wet());
    }

    @Says(in = "Terms", words = "Nothing changes then.")
    void refusedAheadOfTheFirstReliefChangesNothing() {
        LakeRelief x = new LakeRelief();
        refusedAheadOfAll(x);
        for (int r = 0; r < 8; r++) {
            checks.due("strip " + r + " is missing still", 10000000011L, x.told(r, 0));
        }
        checks.due("no relief still", NO, x.count(0));
        x.lay(1, 1);
        checks.due("nothing poured", 0, x.count(7));
        checks.due("nothing gone", 0, x.count(6));
    }

    private void refusedAheadOfAll(LakeRelief x) {
        checks.due("pour", NO, x.pour(0, 5));
        checks.due("put", -11, x.put(0, 0, 5));
        checks.due("copy", -11, x.copy(0, 0, 1, 0, 0));
        checks.due("strip", -13, x.strip(0, 0, -1));
        checks.due("strip", BAD, x.strip(0, 0, 13));
        checks.due("lay", BAD, x.lay(0, 1));
    }
}
