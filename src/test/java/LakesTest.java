/** The tree of lakes: how it comes, GROUND, what is held, and promises 9 to 12. */
public final class LakesTest {
    private static final int BAD = LakeRelief.BAD, NO = LakeRelief.NO, NONE = LakeRelief.NONE, SEA = LakeRelief.SEA;
    private static final int LEAST = Integer.MIN_VALUE, GREATEST = Integer.MAX_VALUE;
    private static final int IS_DOUBLE = 0, LOWEST = 1, RIM = 2, WHOLE = 3, LESSER_PART = 4, GREATER_PART = 5,
        FIELDS = 6, MOST = 7, IS_THERE = 8, WATER = 9;

    private final Checks checks = new Checks();

    public static void main(String[] args) throws ReflectiveOperationException {
        LakesTest test = new LakesTest();
        test.checks.runAll(test);
    }

    /** Asks one thing of all lakes. */
    private void lakes(LakeRelief x, int what, int... want) {
        checks.due("count of lakes", want.length, x.count(3));
        for (int l = 0; l < want.length; l++) {
            checks.due("lake(" + l + ", " + what + ")", want[l], x.lake(l, what));
        }
        checks.due("lake(" + want.length + ", " + what + ")", -2000001, x.lake(want.length, what));
    }

    private void ground(LakeRelief x, int l, int... want) {
        long fields = x.count(0);
        for (int f = 0; f < fields; f++) {
            checks.due("ground(" + l + ", " + f + ")", contains(want, f) ? 1 : 0, x.ground(l, f));
        }
        checks.due("count of ground of " + l, want.length, x.lake(l, FIELDS));
    }

    private static boolean contains(int[] fields, int f) {
        for (int g : fields) {
            if (g == f) {
                return true;
            }
        }
        return false;
    }

    /** 0 and 1 join at 9 (4), then that double and 2 at 11 (6); the last one spills over the edge at 14 (8). */
    private static LakeRelief steps() {
        return Reliefs.laid(
            Reliefs.row(20, 20, 20, 20, 20, 20, 20),
            Reliefs.row(20, 2, 4, 1, 6, 0, 20),
            Reliefs.row(8, 7, 20, 20, 20, 20, 20),
            Reliefs.row(20, 20, 20, 20, 20, 20, 20));
    }

    /** 15 (0) and 17 (1) join at 16 (4) ahead of all; then that double, 11 (2) and 25 (3) join at 18 (7). */
    private static LakeRelief doubleAtThree() {
        return Reliefs.laid(
            Reliefs.row(20, 20, 20, 20, 20, 20, 20),
            Reliefs.row(20, 20, 20, 20, 2, 20, 20),
            Reliefs.row(20, 0, 4, 1, 7, 20, 20),
            Reliefs.row(20, 20, 20, 20, 3, 20, 20),
            Reliefs.row(20, 20, 20, 20, 20, 20, 20));
    }

    /** Three hollows, 7 (1), 11 (2) and 17 (3), around 12 (5), which has SEA at its last side. */
    private static LakeRelief threeBesideSea() {
        return Reliefs.laid(
            Reliefs.row(9, 9, 9, 9, 9),
            Reliefs.row(9, 9, 1, 9, 9),
            Reliefs.row(9, 2, 5),
            Reliefs.row(9, 9, 3, 9, 9),
            Reliefs.row(9, 9, 9, 9, 9));
    }

    // ---- how they come

    @Says(in = "Terms", words = "LAKES 0, 1, .. come as ground goes under, FIELD by FIELD, the LOWEST first:")
    void lakesComeTheLowestFirst() {
        lakes(Reliefs.star(), LOWEST, 17, 7, 11, 13, 17, 17, 17);
        lakes(Reliefs.flat(), LOWEST, 6, 9, 6);
        LakeRelief late = Reliefs.laid(
            Reliefs.row(9, 9, 9, 9, 9, 9, 9),
            Reliefs.row(9, 0, 2, 1, 9, 5, 9),
            Reliefs.row(9, 9, 9, 9, 9, 9, 9));
        lakes(late, LOWEST, 8, 10, 8, 12);
        lakes(late, IS_DOUBLE, 0, 0, 1, 0);
        lakes(Reliefs.sea(8, 8), LOWEST);
        lakes(Reliefs.laid(Reliefs.row(5)), LOWEST);
    }

    @Says(in = "Terms", words = "each joins the GROUND of NEIGHBOURS that are under already.")
    void fieldJoinsGroundThatIsUnder() {
        LakeRelief x = Reliefs.laid(
            Reliefs.row(9, 9, 9, 9, 9),
            Reliefs.row(9, 2, 3, 3, 9),
            Reliefs.row(9, 9, 9, 4, 9),
            Reliefs.row(9, 9, 9, 9, 9));
        lakes(x, LOWEST, 6);
        ground(x, 0, 6, 7, 8, 13);
        LakeRelief corners = Reliefs.laid(
            Reliefs.row(9, 9, 9, 9),
            Reliefs.row(9, 2, 8, 9),
            Reliefs.row(9, 8, 3, 9),
            Reliefs.row(9, 9, 9, 9));
        lakes(corners, LOWEST, 5, 10, 5);
        ground(corners, 0, 5);
        ground(corners, 1, 10);
    }

    @Says(in = "Terms", words = "If there are none, and no SEA beside it, it is a HOLLOW: a LAKE comes,")
    void lakeComesAtAHollow() {
        lakes(Reliefs.trough(), LOWEST, 5);
        lakes(Reliefs.laid(Reliefs.row(9, 9, 9), Reliefs.row(9, 1), Reliefs.row(9, 9, 9)), LOWEST);
        lakes(Reliefs.laid(Reliefs.row(9, 9, 9), Reliefs.row(9, 9, 9), Reliefs.row(9, 1, 9)), LOWEST);
        lakes(Reliefs.laid(Reliefs.row(9, 9, 9), Reliefs.row(9, 9, 9), Reliefs.row(9, 9, 9)), LOWEST);
        LakeRelief most = Reliefs.chequered();
        checks.due("hollows", 18, most.count(2));
        for (int l = 0; l < 18; l++) {
            checks.due("lake " + l + " is at a hollow", most.hollow(l), most.lake(l, LOWEST));
        }
        checks.due("lakes of 18 hollows that all join", 35, most.count(3));
    }

    @Says(in = "Terms", words = "with this as its GROUND.")
    void lakeOfOneField() {
        LakeRelief x = Reliefs.pools();
        ground(x, 0, 6);
        ground(x, 1, 8);
    }

    @Says(in = "Terms", words = "Beside one GROUND alone it comes to that.")
    void fieldComesToOneGround() {
        LakeRelief ring = Reliefs.laid(
            Reliefs.row(20, 20, 20, 20, 20),
            Reliefs.row(20, 1, 2, 3, 20),
            Reliefs.row(20, 8, 9, 4, 20),
            Reliefs.row(20, 7, 6, 5, 20),
            Reliefs.row(20, 20, 20, 20, 20));
        lakes(ring, MOST, 135);
        ground(ring, 0, 6, 7, 8, 11, 12, 13, 16, 17, 18);
        LakeRelief doubles = steps();
        checks.due("a field beside a double comes to that", 1, doubles.ground(4, 15));
        checks.due("and not to its part", 0, doubles.ground(3, 15));
    }

    @Says(in = "Terms", words = "Beside SEA,")
    void spillBesideSea() {
        lakes(Reliefs.trough(), RIM, 1);
        lakes(Reliefs.trough(), WHOLE, SEA);
        LakeRelief hole = Reliefs.laid(
            Reliefs.row(9, 9, 9, 9, 9),
            Reliefs.row(9, 1, 6),
            Reliefs.row(9, 9, 9, 9, 9));
        lakes(hole, RIM, 7);
        lakes(hole, WHOLE, SEA);
        lakes(hole, MOST, 5);
    }

    @Says(in = "Terms", words = "or GROUND that spilled to SEA:")
    void spillBesideGroundThatSpilled() {
        LakeRelief x = Reliefs.stairs();
        lakes(x, RIM, 7, 9);
        lakes(x, WHOLE, SEA, SEA);
        lakes(x, MOST, 5, 2);
        LakeRelief chain = Reliefs.laid(
            Reliefs.row(20, 20, 20, 20, 20, 20, 20),
            Reliefs.row(20, 0, 8, 1, 6, 2, 4),
            Reliefs.row(20, 20, 20, 20, 20, 20, 20));
        lakes(chain, RIM, 9, 11, 13);
        lakes(chain, WHOLE, SEA, SEA, SEA);
        LakeRelief spilledDouble = Reliefs.laid(
            Reliefs.row(20, 20, 20, 20, 20, 20, 20, 20),
            Reliefs.row(20, 0, 9, 1, 2, 2, 1, 5),
            Reliefs.row(20, 20, 20, 20, 20, 20, 20, 20));
        lakes(spilledDouble, RIM, 10, 13, 13, 15);
        lakes(spilledDouble, WHOLE, SEA, 3, 3, SEA);
    }

    @Says(in = "Terms", words = "all GROUNDS beside it spill to SEA there, this FIELD is their RIM,")
    void allGroundsSpillAtOneRim() {
        LakeRelief three = threeBesideSea();
        lakes(three, RIM, 12, 12, 12);
        lakes(three, WHOLE, SEA, SEA, SEA);
        lakes(three, IS_DOUBLE, 0, 0, 0);
        LakeRelief two = Reliefs.laid(
            Reliefs.row(9, 9, 9),
            Reliefs.row(9, 1, 9),
            Reliefs.row(9, 4),
            Reliefs.row(9, 2, 9),
            Reliefs.row(9, 9, 9));
        lakes(two, RIM, 7, 7);
        lakes(two, WHOLE, SEA, SEA);
        LakeRelief withSpilled = Reliefs.laid(
            Reliefs.row(20, 20, 20, 20, 20),
            Reliefs.row(20, 20, 1, 20, 20),
            Reliefs.row(20, 2, 9, 0, 5),
            Reliefs.row(20, 20, 3, 20, 20),
            Reliefs.row(20, 20, 20, 20, 20));
        lakes(withSpilled, RIM, 14, 12, 12, 12);
        lakes(withSpilled, WHOLE, SEA, SEA, SEA, SEA);
    }

    // Each rim opens the next: 12 by the edge, 10 by 12's ground, 25 by the rim 11 that is SEA'S with 10.
    @Says(in = "Terms", words = "and it is SEA'S with them.")
    void rimIsTheSeasToo() {
        LakeRelief x = Reliefs.laid(
            Reliefs.row(20, 20, 20, 20, 20, 20, 20),
            Reliefs.row(20, 0, 8, 1, 6, 2, 4),
            Reliefs.row(20, 20, 20, 20, 7, 20, 20),
            Reliefs.row(20, 20, 20, 20, 3, 20, 20),
            Reliefs.row(20, 20, 20, 20, 20, 20, 20));
        lakes(x, LOWEST, 8, 10, 12, 25);
        lakes(x, RIM, 9, 11, 13, 18);
        lakes(x, WHOLE, SEA, SEA, SEA, SEA);
        LakeRelief slope = Reliefs.laid(
            Reliefs.row(9, 9, 9, 9, 9),
            Reliefs.row(9, 1, 6, 5, 4),
            Reliefs.row(9, 9, 9, 9, 9));
        lakes(slope, RIM, 7);
        lakes(slope, WHOLE, SEA);
        lakes(slope, MOST, 5);
    }

    @Says(in = "Terms", words = "Beside two GROUNDS or more (none SEA'S) it is their RIM:")
    void twoGroundsMeetAtTheirRim() {
        LakeRelief x = Reliefs.pools();
        lakes(x, RIM, 7, 7, 1);
        lakes(x, WHOLE, 2, 2, SEA);
        lakes(Reliefs.star(), RIM, 12, 12, 12, 12, 12, 12, 2);
        LakeRelief oneIsTheSeas = Reliefs.stairs();
        lakes(oneIsTheSeas, IS_DOUBLE, 0, 0);
    }

    @Says(in = "Terms", words = "the two whose LAKES have the lesser numbers (those on top) are PARTS of a new LAKE,")
    void theLesserNumbersAreParts() {
        LakeRelief star = Reliefs.star();
        checks.due("lesser part of the first double", 0, star.lake(4, LESSER_PART));
        checks.due("greater part of the first double", 1, star.lake(4, GREATER_PART));
        LakeRelief x = doubleAtThree();
        lakes(x, LOWEST, 15, 17, 11, 25, 15, 11, 15);
        lakes(x, WHOLE, 4, 4, 5, 5, 6, 6, SEA);
        lakes(x, LESSER_PART, NONE, NONE, NONE, NONE, 0, 2, 4);
        lakes(x, GREATER_PART, NONE, NONE, NONE, NONE, 1, 3, 5);
    }

    @Says(in = "Terms", words = "a DOUBLE, with both GROUNDS;")
    void doubleHasBothGrounds() {
        LakeRelief x = doubleAtThree();
        ground(x, 4, 15, 16, 17);
        ground(x, 5, 11, 25);
        ground(x, 6, 11, 15, 16, 17, 18, 25);
        lakes(x, MOST, 4, 3, 5, 4, 16, 9, 103);
    }

    @Says(in = "Terms", words = "then, if there is another one, that DOUBLE and the next, and so on;")
    void doublesOfSeveralGrounds() {
        LakeRelief four = Reliefs.star();
        lakes(four, WHOLE, 4, 4, 5, 6, 5, 6, SEA);
        lakes(four, LESSER_PART, NONE, NONE, NONE, NONE, 0, 2, 3);
        lakes(four, GREATER_PART, NONE, NONE, NONE, NONE, 1, 4, 5);
        LakeRelief three = Reliefs.laid(
            Reliefs.row(9, 9, 9, 9, 9),
            Reliefs.row(9, 9, 1, 9, 9),
            Reliefs.row(9, 2, 5, 9, 9),
            Reliefs.row(9, 9, 0, 9, 9),
            Reliefs.row(9, 9, 9, 9, 9));
        lakes(three, WHOLE, 3, 3, 4, 4, SEA);
        lakes(three, LESSER_PART, NONE, NONE, NONE, 0, 2);
        lakes(three, GREATER_PART, NONE, NONE, NONE, 1, 3);
    }

    @Says(in = "Terms", words = "the FIELD comes to the last one's GROUND.")
    void rimComesToTheLastDouble() {
        LakeRelief x = Reliefs.star();
        for (int l = 0; l < 7; l++) {
            checks.due("ground(" + l + ", 12)", l == 6 ? 1 : 0, x.ground(l, 12));
        }
        LakeRelief y = Reliefs.pools();
        ground(y, 2, 6, 7, 8);
    }

    // ---- ground

    @Says(in = "Terms", words = "The GROUND of a LAKE, as it is told later, is all that was its own ahead of its RIM,")
    void groundIsAllAheadOfTheRim() {
        LakeRelief likeAhead = Reliefs.laid(
            Reliefs.row(9, 9, 9, 9),
            Reliefs.row(9, 1, 5, 9),
            Reliefs.row(9, 5, 9, 9),
            Reliefs.row(9, 5, 9, 9));
        lakes(likeAhead, RIM, 13);
        ground(likeAhead, 0, 5, 6, 9);
        lakes(likeAhead, MOST, 4);
        LakeRelief likeBehind = Reliefs.laid(
            Reliefs.row(9, 9, 5, 9),
            Reliefs.row(9, 1, 5, 9),
            Reliefs.row(9, 5, 9, 9),
            Reliefs.row(9, 9, 9, 9));
        lakes(likeBehind, RIM, 6);
        ground(likeBehind, 0, 5);
    }

    @Says(in = "Terms", words = "its PARTS' GROUNDS and the RIMS of these being with it if it is a DOUBLE")
    void groundOfADouble() {
        LakeRelief x = steps();
        ground(x, 0, 12);
        ground(x, 1, 10);
        ground(x, 2, 8);
        ground(x, 3, 8, 9, 10);
        ground(x, 4, 8, 9, 10, 11, 12, 15);
    }

    @Says(in = "Terms", words = "(of several DOUBLES at one RIM, that FIELD is of the last one alone).")
    void groundOfDoublesAtOneRim() {
        LakeRelief x = Reliefs.star();
        ground(x, 4, 7, 17);
        ground(x, 5, 7, 11, 17);
        ground(x, 6, 7, 11, 12, 13, 17);
        lakes(x, FIELDS, 1, 1, 1, 1, 2, 3, 5);
    }

    @Says(in = "Terms", words = "WATER is whole grains, one for a unit of height on a FIELD.")
    void oneGrainForAUnitOfHeight() {
        LakeRelief x = Reliefs.trough();
        for (int grains = 1; grains <= 14; grains++) {
            checks.due("a grain, gone", 0, x.pour(5, 1));
            checks.due("water", grains, x.lake(0, WATER));
        }
        checks.due("one above eight and six", 1, x.pour(5, 1));
    }

    @Says(in = "Terms", words = {"A LAKE up to a level HOLDS, of each FIELD of its GROUND that is below it,",
        "the level less its height."})
    void holdsOfEachFieldBelow() {
        LakeRelief x = Reliefs.star();
        int[] levels = {-1000000, -1, 0, 1, 2, 3, 4, 5, 6, 9};
        int[] holds = {0, 0, 0, 1, 3, 6, 10, 14, 19, 34};
        for (int k = 0; k < levels.length; k++) {
            checks.due("holds up to " + levels[k], holds[k], x.holds(6, levels[k]));
        }
        checks.due("the rim is none of this one's", 12, x.holds(5, 5));
    }

    @Says(in = "Terms", words = "Its MOST is what it HOLDS up to the height of its RIM.")
    void mostIsUpToTheRim() {
        LakeRelief x = Reliefs.star();
        lakes(x, MOST, 5, 4, 3, 2, 9, 12, 34);
        for (int l = 0; l < 7; l++) {
            checks.due("lake " + l + " up to its rim", x.lake(l, MOST), x.holds(l, x.field(x.lake(l, RIM), 1)));
        }
        lakes(Reliefs.flat(), MOST, 0, 0, 12);
        checks.due("the most of all", 36000018, Reliefs.chequered().lake(34, MOST));
    }

    // ---- promise 9

    @Says(in = "Promise 9", words = "Of a LAKE: 0 whether it is a DOUBLE (1, 0),")
    void lakeIsDouble() {
        lakes(Reliefs.pools(), IS_DOUBLE, 0, 0, 1);
    }

    @Says(in = "Promise 9", words = "1 the LOWEST FIELD of its GROUND,")
    void lakeLowest() {
        lakes(Reliefs.pools(), LOWEST, 6, 8, 6);
        lakes(Reliefs.flat(), LOWEST, 6, 9, 6);
        lakes(steps(), LOWEST, 12, 10, 8, 10, 12);
    }

    @Says(in = "Promise 9", words = "2 its RIM,")
    void lakeRim() {
        lakes(Reliefs.pools(), RIM, 7, 7, 1);
        lakes(Reliefs.flat(), RIM, 10, 10, 2);
        lakes(steps(), RIM, 11, 9, 9, 11, 14);
    }

    @Says(in = "Promise 9", words = "3 the DOUBLE of which it is a PART (SEA: it spills there),")
    void lakeWhole() {
        lakes(Reliefs.pools(), WHOLE, 2, 2, SEA);
        lakes(steps(), WHOLE, 4, 3, 3, 4, SEA);
        LakeRelief x = Reliefs.pools();
        x.pour(7, 1000);
        lakes(x, WHOLE, 2, 2, SEA);
    }

    @Says(in = "Promise 9", words = "4, 5 its PARTS, the lesser number first (NONE),")
    void lakeParts() {
        lakes(Reliefs.pools(), LESSER_PART, NONE, NONE, 0);
        lakes(Reliefs.pools(), GREATER_PART, NONE, NONE, 1);
        lakes(steps(), LESSER_PART, NONE, NONE, NONE, 1, 0);
        lakes(steps(), GREATER_PART, NONE, NONE, NONE, 2, 3);
    }

    @Says(in = "Promise 9", words = "6 how many FIELDS its GROUND has,")
    void lakeFields() {
        lakes(Reliefs.pools(), FIELDS, 1, 1, 3);
        lakes(steps(), FIELDS, 1, 1, 1, 3, 6);
        checks.due("the most fields", 36, Reliefs.chequered().lake(34, FIELDS));
    }

    @Says(in = "Promise 9", words = "7 MOST,")
    void lakeMost() {
        LakeRelief x = Reliefs.pools();
        lakes(x, MOST, 4, 2, 18);
        x.pour(7, 1000);
        lakes(x, MOST, 4, 2, 18);
        lakes(steps(), MOST, 6, 3, 2, 11, 28);
    }

    @Says(in = "Promise 9", words = "8 whether it is there (1, 0),")
    void lakeIsThere() {
        LakeRelief x = Reliefs.pools();
        lakes(x, IS_THERE, 1, 1, 0);
        x.pour(6, 6);
        lakes(x, IS_THERE, 1, 1, 0);
        x.pour(6, 1);
        lakes(x, IS_THERE, 0, 0, 1);
    }

    @Says(in = "Promise 9", words = "9 its WATER (0, if it is not there).")
    void lakeWater() {
        LakeRelief x = Reliefs.pools();
        lakes(x, WATER, 0, 0, 0);
        x.pour(6, 6);
        lakes(x, WATER, 4, 2, 0);
        x.pour(6, 1);
        lakes(x, WATER, 0, 0, 7);
        x.pour(6, 1000);
        lakes(x, WATER, 0, 0, 18);
    }

    @Says(in = "Promise 9", words = "BAD, NO answer -2000001, -2000002.")
    void lakeRefused() {
        LakeRelief x = Reliefs.pools();
        for (int what = 0; what <= 9; what++) {
            for (int l : new int[] {LEAST, SEA, NONE, -1, 3, 34, 35, 64, GREATEST}) {
                checks.due("lake(" + l + ", " + what + ")", -2000001, x.lake(l, what));
            }
        }
        for (int what : new int[] {LEAST, -1, 10, GREATEST}) {
            checks.due("lake(0, " + what + ")", -2000001, x.lake(0, what));
            checks.due("lake(2, " + what + ")", -2000001, x.lake(2, what));
        }
        checks.due("the lake behind the last that can be", -2000001, Reliefs.chequered().lake(35, 0));
        checks.due("where no lake is", -2000001, Reliefs.sea(8, 8).lake(0, 0));
        LakeRelief none = new LakeRelief();
        checks.due("no relief", -2000002, none.lake(0, 0));
        checks.due("no relief, no lake", -2000002, none.lake(-1, 0));
        checks.due("no relief, nothing asked", -2000002, none.lake(0, 10));
    }

    // ---- promise 10

    @Says(in = "Promise 10", words = "1: a FIELD is of a LAKE's GROUND; 0.")
    void groundOfFields() {
        LakeRelief x = Reliefs.laid(Reliefs.row(9, 9, 9, 9), Reliefs.row(9, 1, 9), Reliefs.row(9, 9, 9, 9));
        ground(x, 0, 5);
        checks.due("sea is of none", 0, x.ground(0, 7));
        LakeRelief joined = Reliefs.pools();
        joined.pour(7, 1000);
        ground(joined, 0, 6);
        ground(joined, 1, 8);
        ground(joined, 2, 6, 7, 8);
    }

    @Says(in = "Promise 10", words = "BAD;")
    void groundOfNoFieldOrLake() {
        LakeRelief x = Reliefs.pools();
        for (int l : new int[] {LEAST, SEA, NONE, -1, 3, 35, GREATEST}) {
            checks.due("ground(" + l + ", 6)", BAD, x.ground(l, 6));
        }
        for (int f : new int[] {LEAST, SEA, NONE, -1, 15, 63, 64, 64 + 6, GREATEST}) {
            checks.due("ground(0, " + f + ")", BAD, x.ground(0, f));
        }
        checks.due("neither", BAD, x.ground(-1, -1));
    }

    @Says(in = "Promise 10", words = "NO.")
    void groundOfNoRelief() {
        LakeRelief x = new LakeRelief();
        checks.due("ground(0, 0)", NO, x.ground(0, 0));
        checks.due("ground(-1, -1)", NO, x.ground(-1, -1));
    }

    // ---- promise 11

    @Says(in = "Promise 11", words = {"What a LAKE HOLDS up to a level, that may be at most its RIM's height,",
        "and not below -1000000."})
    void holdsBetweenItsBounds() {
        LakeRelief x = Reliefs.pools();
        int[] rims = {5, 5, 9};
        int[] most = {4, 2, 18};
        for (int l = 0; l < 3; l++) {
            checks.due("lake " + l + " up to its rim", most[l], x.holds(l, rims[l]));
            checks.due("lake " + l + " above its rim", BAD, x.holds(l, rims[l] + 1));
            checks.due("lake " + l + " far above its rim", BAD, x.holds(l, GREATEST));
            checks.due("lake " + l + " up to the deepest", 0, x.holds(l, -1000000));
            checks.due("lake " + l + " below the deepest", BAD, x.holds(l, -1000001));
            checks.due("lake " + l + " far below the deepest", BAD, x.holds(l, LEAST));
        }
        LakeRelief deep = Reliefs.deep();
        checks.due("from the deepest to the highest", 2000000, deep.holds(0, 1000000));
        checks.due("above the highest", BAD, deep.holds(0, 1000001));
        checks.due("one above the deepest", 1, deep.holds(0, -999999));
        checks.due("the deepest", 0, deep.holds(0, -1000000));
        x.pour(7, 1000);
        checks.due("one that is gone holds as before", 4, x.holds(0, 5));
        checks.due("a lake of no room", 0, Reliefs.flat().holds(0, 3));
    }

    @Says(in = "Promise 11", words = "BAD;")
    void holdsOfNoLake() {
        LakeRelief x = Reliefs.pools();
        for (int l : new int[] {LEAST, SEA, NONE, -1, 3, 35, GREATEST}) {
            checks.due("holds(" + l + ", 0)", BAD, x.holds(l, 0));
        }
    }

    @Says(in = "Promise 11", words = "NO.")
    void holdsOfNoRelief() {
        LakeRelief x = new LakeRelief();
        checks.due("holds(0, 0)", NO, x.holds(0, 0));
        checks.due("holds(-1, -1000001)", NO, x.holds(-1, -1000001));
    }

    // ---- promise 12

    @Says(in = "Promise 12", words = "How many FIELDS of its GROUND are below a level,")
    void areaBelowALevel() {
        LakeRelief x = Reliefs.star();
        int[] levels = {-1000000, 0, 1, 2, 3, 4, 5, 6, 9};
        int[] areas = {0, 0, 1, 2, 3, 4, 4, 5, 5};
        for (int k = 0; k < levels.length; k++) {
            checks.due("area at " + levels[k], areas[k], x.area(6, levels[k]));
        }
        checks.due("the rim is none of this one's", 3, x.area(5, 5));
        checks.due("a lake of no room", 0, Reliefs.flat().area(0, 3));
        checks.due("one above the deepest", 1, Reliefs.deep().area(0, -999999));
        checks.due("the deepest", 0, Reliefs.deep().area(0, -1000000));
    }

    @Says(in = "Promise 12", words = "as told by holds().")
    void areaBetweenTheBoundsOfHolds() {
        LakeRelief x = Reliefs.pools();
        int[] rims = {5, 5, 9};
        int[] fields = {1, 1, 3};
        for (int l = 0; l < 3; l++) {
            checks.due("lake " + l + " at its rim", fields[l], x.area(l, rims[l]));
            checks.due("lake " + l + " above its rim", BAD, x.area(l, rims[l] + 1));
            checks.due("lake " + l + " far above its rim", BAD, x.area(l, GREATEST));
            checks.due("lake " + l + " at the deepest", 0, x.area(l, -1000000));
            checks.due("lake " + l + " below the deepest", BAD, x.area(l, -1000001));
            checks.due("lake " + l + " far below the deepest", BAD, x.area(l, LEAST));
        }
        for (int l : new int[] {LEAST, SEA, NONE, -1, 3, 35, GREATEST}) {
            checks.due("area(" + l + ", 0)", BAD, x.area(l, 0));
        }
        LakeRelief none = new LakeRelief();
        checks.due("no relief", NO, none.area(0, 0));
        checks.due("no relief, no lake, no level", NO, none.area(-1, -1000001));
    }
}
