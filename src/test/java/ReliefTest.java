/** The relief, dry: what is laid, LOWER, hollows, ways down, FILL, and promises 6 to 8. */
public final class ReliefTest {
    private static final int BAD = LakeRelief.BAD, NO = LakeRelief.NO, NONE = LakeRelief.NONE, SEA = LakeRelief.SEA;
    private static final int FIELD_BAD = -2000001, FIELD_NO = -2000002;
    private static final int LEAST = Integer.MIN_VALUE, GREATEST = Integer.MAX_VALUE;
    private static final int IS_SEA = 0, HEIGHT = 1, DOWN = 2, WAY_END = 3, FILL = 4, LAKE = 5;

    private final Checks checks = new Checks();

    public static void main(String[] args) throws ReflectiveOperationException {
        ReliefTest test = new ReliefTest();
        test.checks.runAll(test);
    }

    private void fields(LakeRelief x, int what, int... want) {
        for (int f = 0; f < want.length; f++) {
            checks.due("field(" + f + ", " + what + ")", want[f], x.field(f, what));
        }
        checks.due("field(" + want.length + ", " + what + ")", FIELD_BAD, x.field(want.length, what));
    }

    private void hollows(LakeRelief x, int... want) {
        for (int i = 0; i < want.length; i++) {
            checks.due("hollow(" + i + ")", want[i], x.hollow(i));
        }
        checks.due("behind the last hollow", NONE, x.hollow(want.length));
        checks.due("count of hollows", want.length, x.count(2));
    }

    // ---- the relief

    @Says(in = "Terms", words = "THE RELIEF has H LINES (1 to 8) of W FIELDS (1 to 8):")
    void oneToEightLinesAndFields() {
        LakeRelief x = new LakeRelief();
        for (int w = -1; w <= 10; w++) {
            for (int h = -1; h <= 10; h++) {
                boolean isFit = w >= 1 && w <= 8 && h >= 1 && h <= 8;
                checks.due("lay(" + w + ", " + h + ")", isFit ? 0 : BAD, x.lay(w, h));
                if (isFit) {
                    checks.due("fields of lay(" + w + ", " + h + ")", w * h, x.count(0));
                }
            }
        }
    }

    @Says(in = "Terms", words = "FIELD W r + c is the c-th one of LINE r.")
    void fieldsAreNumberedLineByLine() {
        LakeRelief x = Reliefs.laid(Reliefs.row(1, 2, 3), Reliefs.row(4, 5, 6));
        fields(x, HEIGHT, 1, 2, 3, 4, 5, 6);
        checks.due("the same strips, less wide", 4, x.lay(2, 2));
        fields(x, HEIGHT, 1, 2, 4, 5);
        checks.due("the same strips, one wide", 2, x.lay(1, 2));
        fields(x, HEIGHT, 1, 4);
    }

    @Says(in = "Terms", words = "LAID it has the heights of STRIPS 0 to H - 1 as they are then: place c of STRIP r;")
    void heightsAreThoseOfTheStripsThen() {
        LakeRelief x = Reliefs.stripsOf(Reliefs.row(1, 2, 3), Reliefs.row(4, 5, 6), Reliefs.row(7, 8, 9));
        checks.due("lay", 4, x.lay(2, 2));
        x.put(0, 0, 99);
        x.strip(1, -1, 0);
        x.copy(2, 0, 0, 1, 1);
        fields(x, HEIGHT, 1, 2, 4, 5);
        fields(x, IS_SEA, 0, 0, 0, 0);
        checks.due("lay then", 2, x.lay(2, 2));
        fields(x, HEIGHT, 99, 7, 0, 0);
        fields(x, IS_SEA, 0, 0, 1, 1);
    }

    @Says(in = "Terms", words = "LAID it has the heights of STRIPS 0 to H - 1 as they are then")
    void heightsAreOfAllSorts() {
        LakeRelief x = new LakeRelief();
        for (int r = 0; r < 3; r++) {
            x.strip(r, r, 2);
            x.put(r, 0, 40000);
            x.put(r, 1, -40000);
        }
        checks.due("lay", 6, x.lay(2, 3));
        fields(x, HEIGHT, 64, -64, -25536, 25536, 40000, -40000);
    }

    @Says(in = "Terms", words = "where that is MISSING or has no such place, it is SEA,")
    void seaWhereNoPlaceIs() {
        LakeRelief x = Reliefs.stripsOf(Reliefs.row(1, 2), null, Reliefs.row(), Reliefs.row(5, 6, 7, 8));
        checks.due("lay", 5, x.lay(3, 4));
        fields(x, IS_SEA, 0, 0, 1, 1, 1, 1, 1, 1, 1, 0, 0, 0);
        checks.due("lay of missing strips alone", 0, new LakeRelief().lay(8, 8));
    }

    @Says(in = "Terms", words = "as is all beyond the grid.")
    void seaBeyondTheGrid() {
        LakeRelief x = Reliefs.laid(Reliefs.row(9, 9, 9), Reliefs.row(9, 9, 9), Reliefs.row(9, 9, 9));
        fields(x, DOWN, SEA, SEA, SEA, SEA, 1, SEA, SEA, SEA, SEA);
        LakeRelief one = Reliefs.laid(Reliefs.row(-1000000));
        checks.due("down of the only field", SEA, one.field(0, DOWN));
        checks.due("hollows", 0, one.count(2));
        LakeRelief longer = Reliefs.stripsOf(Reliefs.row(9, 9, 9, 0), Reliefs.row(9, 5, 9, 0), Reliefs.row(9, 9, 9, 0),
            Reliefs.row(0, 0, 0, 0));
        checks.due("places beyond the width, strips beyond the lines", 9, longer.lay(3, 3));
        hollows(longer, 4);
    }

    @Says(in = "Terms", words = "NEIGHBOURS lie along and up: four.")
    void neighboursAreFour() {
        LakeRelief corners = Reliefs.laid(Reliefs.row(0, 9, 0), Reliefs.row(9, 5, 9), Reliefs.row(0, 9, 0));
        hollows(corners, 4);
        int[] around = {7, 11, 13, 17};
        for (int lower : around) {
            LakeRelief x = Reliefs.laid(
                Reliefs.row(9, 9, 9, 9, 9),
                Reliefs.row(9, 0, lower == 7 ? 4 : 6, 0, 9),
                Reliefs.row(9, lower == 11 ? 4 : 6, 5, lower == 13 ? 4 : 6, 9),
                Reliefs.row(9, 0, lower == 17 ? 4 : 6, 0, 9),
                Reliefs.row(9, 9, 9, 9, 9));
            checks.due("down of 12, past lower corners", lower, x.field(12, DOWN));
        }
        LakeRelief lines = Reliefs.laid(Reliefs.row(1, 1, 5), Reliefs.row(5, 1, 1));
        checks.due("a line's end is not beside the next one's start", 2, lines.islands(2));
    }

    @Says(in = "Terms", words = "LAID no height may be above 1000000 or below -1000000.")
    void heightsHaveBounds() {
        int[] heights = {1000000, -1000000, 1000001, -1000001, GREATEST, LEAST};
        for (int k = 0; k < heights.length; k++) {
            LakeRelief x = Reliefs.stripsOf(Reliefs.row(0, heights[k]));
            checks.due("lay with " + heights[k], k < 2 ? 2 : BAD, x.lay(2, 1));
            checks.due("height " + heights[k], k < 2 ? heights[k] : FIELD_NO, x.field(1, HEIGHT));
        }
        LakeRelief outside = Reliefs.stripsOf(Reliefs.row(0, GREATEST), Reliefs.row(LEAST, 0));
        checks.due("what is not in the grid is not laid", 1, outside.lay(1, 1));
        checks.due("the next place is", BAD, outside.lay(2, 1));
        checks.due("the next strip is", BAD, outside.lay(1, 2));
    }

    // ---- lower

    @Says(in = "Terms", words = "LOWER of two FIELDS is that of the lesser height,")
    void lowerByHeight() {
        LakeRelief x = Reliefs.laid(
            Reliefs.row(9, 9, 9, 9),
            Reliefs.row(9, -1000000, -999999, 9),
            Reliefs.row(9, 1000000, 999999, 9),
            Reliefs.row(9, 9, 9, 9));
        hollows(x, 5);
        checks.due("down beside it", 5, x.field(6, DOWN));
        checks.due("down of the highest", 5, x.field(9, DOWN));
        checks.due("down of the next", 6, x.field(10, DOWN));
    }

    @Says(in = "Terms", words = "of like ones that of the lesser number;")
    void lowerByNumber() {
        LakeRelief level = Reliefs.laid(
            Reliefs.row(7, 7, 7, 7),
            Reliefs.row(7, 7, 7, 7),
            Reliefs.row(7, 7, 7, 7),
            Reliefs.row(7, 7, 7, 7));
        checks.due("down of 5", 1, level.field(5, DOWN));
        checks.due("down of 6", 2, level.field(6, DOWN));
        checks.due("down of 9", 5, level.field(9, DOWN));
        checks.due("down of 10", 6, level.field(10, DOWN));
        hollows(level);
        LakeRelief like = Reliefs.laid(
            Reliefs.row(9, 9, 9, 9),
            Reliefs.row(9, 4, 4, 9),
            Reliefs.row(9, 4, 4, 9),
            Reliefs.row(9, 9, 9, 9));
        hollows(like, 5);
        checks.due("down of the last, above ahead of along", 6, like.field(10, DOWN));
    }

    @Says(in = "Terms", words = "SEA is LOWER than all.")
    void seaIsLowest() {
        LakeRelief x = Reliefs.laid(
            Reliefs.row(9, 9, 9, 9),
            Reliefs.row(9, -1000000, -999999),
            Reliefs.row(9, 9, 9, 9));
        checks.due("down beside sea and a deeper field", SEA, x.field(6, DOWN));
        hollows(x, 5);
        LakeRelief deepest = Reliefs.laid(Reliefs.row(9, 9, 9), Reliefs.row(9, -1000000), Reliefs.row(9, 9, 9));
        checks.due("down of the deepest beside sea", SEA, deepest.field(4, DOWN));
        hollows(deepest);
    }

    @Says(in = "Terms", words = "A FIELD that is no SEA and LOWER than all its NEIGHBOURS is a HOLLOW.")
    void hollowIsLowerThanAllNeighbours() {
        hollows(Reliefs.star(), 7, 11, 13, 17);
        hollows(Reliefs.flat(), 6, 9);
        hollows(Reliefs.trough(), 5);
        hollows(Reliefs.laid(Reliefs.row(9, 9, 9), Reliefs.row(9, 9, 9), Reliefs.row(9, 9, 9)));
        hollows(Reliefs.laid(Reliefs.row(9, 9, 9), Reliefs.row(9, 8, 9), Reliefs.row(9, 9, 9)), 4);
        hollows(Reliefs.laid(Reliefs.row(9, 9, 9), null, Reliefs.row(9, 9, 9)));
        hollows(Reliefs.sea(3, 3));
        LakeRelief likeAhead = Reliefs.laid(Reliefs.row(9, 4, 9), Reliefs.row(9, 4, 9), Reliefs.row(9, 9, 9));
        hollows(likeAhead);
        LakeRelief likeBehind = Reliefs.laid(Reliefs.row(9, 9, 9), Reliefs.row(9, 4, 9), Reliefs.row(9, 4, 9));
        hollows(likeBehind, 4);
    }

    @Says(in = "Terms", words = "DOWN of another one is its LOWEST NEIGHBOUR (SEA, if there is one).")
    void downIsTheLowestNeighbour() {
        LakeRelief x = Reliefs.laid(
            Reliefs.row(9, 9, 9, 9, 9, 9),
            Reliefs.row(9, 4, 5, 6, 1, 9),
            Reliefs.row(9, 3, 8, 7, 2, 9),
            Reliefs.row(9, 9, 9, 9, 9, 9));
        int[] inside = {7, 8, 9, 10, 13, 14, 15, 16};
        int[] downs = {13, 7, 10, NONE, NONE, 13, 16, 10};
        for (int k = 0; k < inside.length; k++) {
            checks.due("down of " + inside[k], downs[k], x.field(inside[k], DOWN));
        }
        for (int f : new int[] {0, 1, 5, 6, 11, 12, 17, 18, 22, 23}) {
            checks.due("down at the edge, " + f, SEA, x.field(f, DOWN));
        }
        LakeRelief hole = Reliefs.laid(Reliefs.row(9, 9, 9, 9), Reliefs.row(9, 5, 4, 9), Reliefs.row(9),
            Reliefs.row(9, 9, 9, 9));
        checks.due("down beside sea in the grid", SEA, hole.field(5, DOWN));
    }

    @Says(in = "Terms", words = "Its WAY goes DOWN till it comes to a HOLLOW, or SEA.")
    void wayEndsAtHollowOrSea() {
        LakeRelief x = Reliefs.laid(
            Reliefs.row(40, 40, 40, 40, 40, 40),
            Reliefs.row(40, 20, 19, 18, 17, 40),
            Reliefs.row(40, 40, 40, 40, 16, 40),
            Reliefs.row(40, 12, 13, 14, 15, 40),
            Reliefs.row(40, 11, 40, 40, 40, 40),
            Reliefs.row(40, 40, 40, 40, 40, 40));
        for (int f : new int[] {7, 8, 9, 10, 16, 22, 21, 20, 19, 25}) {
            checks.due("end of the winding way from " + f, 25, x.field(f, WAY_END));
        }
        x.put(5, 1, 10);
        x.lay(6, 6);
        for (int f : new int[] {7, 22, 25, 31, 0}) {
            checks.due("end, with a gap in the edge, from " + f, SEA, x.field(f, WAY_END));
        }
        LakeRelief higher = Reliefs.stairs();
        checks.due("a way goes down, over no rim", 6, higher.field(6, WAY_END));
        checks.due("a way from the rim", 6, higher.field(7, WAY_END));
    }

    @Says(in = "Terms", words = "A HOLLOW's BASIN are the FIELDS whose WAY ends there.")
    void basinsPartTheFields() {
        LakeRelief x = Reliefs.laid(
            Reliefs.row(9, 9, 9, 9, 9, 9),
            Reliefs.row(9, 4, 5, 6, 1, 9),
            Reliefs.row(9, 3, 8, 7, 2, 9),
            Reliefs.row(9, 9, 9, 9, 9, 9));
        fields(x, WAY_END,
            SEA, SEA, SEA, SEA, SEA, SEA,
            SEA, 13, 13, 10, 10, SEA,
            SEA, 13, 13, 10, 10, SEA,
            SEA, SEA, SEA, SEA, SEA, SEA);
    }

    @Says(in = "Terms", words = {"FILL of a FIELD: the least, over all WAYS of NEIGHBOURS from it to SEA,",
        "of the greatest height on it, its own too."})
    void fillIsTheLeastGreatestHeight() {
        LakeRelief x = Reliefs.stairs();
        fields(x, FILL, 9, 9, 9, 9, 9, 9, 6, 6, 4, 4, 9, 9, 9, 9, 9);
        LakeRelief winding = Reliefs.laid(
            Reliefs.row(9, 9, 9, 9, 9, 9),
            Reliefs.row(9, 2, 3, 4, 2, 9),
            Reliefs.row(9, 9, 9, 8, 5, 9),
            Reliefs.row(9, 1, 6, 2, 3, 9),
            Reliefs.row(9, 7, 9, 9, 9, 9),
            Reliefs.row(9, 0, 9, 9, 9, 9));
        fields(winding, FILL,
            9, 9, 9, 9, 9, 9,
            9, 7, 7, 7, 7, 9,
            9, 9, 9, 8, 7, 9,
            9, 7, 7, 7, 7, 9,
            9, 7, 9, 9, 9, 9,
            9, 0, 9, 9, 9, 9);
        LakeRelief peak = Reliefs.laid(Reliefs.row(1, 1, 1), Reliefs.row(1, 8, 1), Reliefs.row(1, 1, 1));
        checks.due("its own height, above all of the way", 8, peak.field(4, FILL));
        LakeRelief extremes = Reliefs.laid(Reliefs.row(1000000, 1000000, 1000000),
            Reliefs.row(1000000, -1000000, 1000000), Reliefs.row(1000000, 1000000, -1000000));
        checks.due("behind the highest rim", 1000000, extremes.field(4, FILL));
        checks.due("of the deepest beside sea", -1000000, extremes.field(8, FILL));
    }

    // ---- promise 6

    @Says(in = "Promise 6", words = "A RELIEF of w FIELDS in each of h LINES is LAID,")
    void layMakesFields() {
        LakeRelief x = new LakeRelief();
        int[][] sizes = {{1, 1}, {8, 1}, {1, 8}, {8, 8}, {3, 5}};
        for (int[] size : sizes) {
            checks.due("lay of sea", 0, x.lay(size[0], size[1]));
            checks.due("fields", size[0] * size[1], x.count(0));
            checks.due("the last field", 1, x.field(size[0] * size[1] - 1, IS_SEA));
            checks.due("behind the last field", FIELD_BAD, x.field(size[0] * size[1], IS_SEA));
        }
    }

    @Says(in = "Promise 6", words = "with no WATER, nothing gone:")
    void layBeginsAnew() {
        LakeRelief x = Reliefs.star();
        x.pour(12, 1000);
        x.pour(0, 5);
        checks.due("lakes there, joined", 1, x.count(4));
        checks.due("lay the same", 25, x.lay(5, 5));
        checks.due("water", 0, x.count(5));
        checks.due("gone", 0, x.count(6));
        checks.due("poured", 0, x.count(7));
        checks.due("lakes there", 4, x.count(4));
        for (int l = 0; l < 7; l++) {
            checks.due("lake " + l + " is there", l < 4 ? 1 : 0, x.lake(l, 8));
            checks.due("water of lake " + l, 0, x.lake(l, 9));
        }
        x.pour(17, 3);
        x.lay(1, 1);
        checks.due("water, where no lake is", 0, x.count(5));
        checks.due("no lake of the one ahead", FIELD_BAD, x.lake(0, 9));
    }

    @Says(in = "Promise 6", words = "A RELIEF of w FIELDS in each of h LINES is LAID, with no WATER")
    void layLeavesNoLakeOfTheOneAhead() {
        LakeRelief x = Reliefs.star();
        x.put(1, 2, 9);
        x.put(2, 1, 9);
        x.put(2, 3, 9);
        checks.due("lay with one hollow in place of four", 25, x.lay(5, 5));
        checks.due("lakes", 1, x.count(3));
        checks.due("lakes there", 1, x.count(4));
        for (int f = 0; f < 25; f++) {
            checks.due("lake at " + f, f == 12 || f == 17 ? 0 : NONE, x.field(f, LAKE));
        }
        checks.due("all that the one lake can't hold is gone", 100 - 13, x.pour(17, 100));
    }

    @Says(in = "Promise 6", words = "how many of its FIELDS are no SEA.")
    void layTellsHowManyAreNoSea() {
        LakeRelief x = Reliefs.stripsOf(Reliefs.row(1, 2, 3), null, Reliefs.row(4), Reliefs.row());
        checks.due("none of missing strips", 0, new LakeRelief().lay(8, 8));
        checks.due("one", 1, x.lay(1, 1));
        checks.due("a line with sea at its end", 3, x.lay(8, 1));
        checks.due("three lines", 4, x.lay(3, 3));
        checks.due("all lines", 4, x.lay(8, 8));
        for (int r = 0; r < 8; r++) {
            x.strip(r, 0, 12);
        }
        checks.due("all fields", 64, x.lay(8, 8));
        checks.due("told by count too", 64, x.count(1));
    }

    @Says(in = "Promise 6", words = "BAD: w, h;")
    void layOfNoSuchSize() {
        LakeRelief x = Reliefs.stripsOf(Reliefs.row(1, 2));
        x.lay(2, 1);
        x.put(0, 0, 9);
        for (int side : new int[] {LEAST, -1, 0, 9, GREATEST}) {
            checks.due("lay(" + side + ", 1)", BAD, x.lay(side, 1));
            checks.due("lay(1, " + side + ")", BAD, x.lay(1, side));
            checks.due("lay(" + side + ", " + side + ")", BAD, x.lay(side, side));
        }
        checks.due("a product that wraps around", BAD, x.lay(65536, 65536));
        fields(x, HEIGHT, 1, 2);
        LakeRelief fresh = new LakeRelief();
        checks.due("lay ahead of all", BAD, fresh.lay(0, 1));
        checks.due("no relief still", NO, fresh.count(0));
    }

    @Says(in = "Promise 6", words = "a height above 1000000, below -1000000 (the one that is LAID stays).")
    void layOfNoSuchHeight() {
        for (int height : new int[] {1000001, -1000001, GREATEST, LEAST}) {
            LakeRelief x = Reliefs.trough();
            x.pour(5, 20);
            x.put(2, 3, height);
            x.put(0, 0, 7);
            checks.due("lay with " + height + " in the last place", BAD, x.lay(4, 3));
            checks.due("height of the one that is laid", 5, x.field(0, HEIGHT));
            checks.due("its fields", 12, x.count(0));
            checks.due("its water", 14, x.count(5));
            checks.due("what is gone of it", 6, x.count(6));
            checks.due("what was poured at it", 20, x.count(7));
            checks.due("the strips stay too", height, x.told(2, 3));
            checks.due("lay without that line", 8, x.lay(4, 2));
        }
        for (int f = 0; f < 12; f++) {
            LakeRelief x = Reliefs.trough();
            x.put(f / 4, f % 4, f % 2 == 0 ? 1000001 : -1000001);
            checks.due("lay with one that may not be at " + f, BAD, x.lay(4, 3));
            checks.due("lay of the lines ahead of it", f < 4 ? BAD : 4, x.lay(4, 1));
        }
        LakeRelief fresh = Reliefs.stripsOf(Reliefs.row(1000001));
        checks.due("lay ahead of all", BAD, fresh.lay(1, 1));
        checks.due("no relief still", NO, fresh.count(0));
        fresh.put(0, 0, 1000000);
        checks.due("lay with the highest", 1, fresh.lay(1, 1));
        fresh.put(0, 0, -1000000);
        checks.due("lay with the deepest", 1, fresh.lay(1, 1));
    }

    // ---- promise 7

    @Says(in = "Promise 7", words = "Of a FIELD: 0 whether it is SEA (1, 0),")
    void fieldIsSea() {
        LakeRelief x = Reliefs.laid(Reliefs.row(0, 0, 0), Reliefs.row(0), Reliefs.row(), null);
        fields(x, IS_SEA, 0, 0, 0, 0, 1, 1, 1, 1, 1, 1, 1, 1);
    }

    @Says(in = "Promise 7", words = "1 its height,")
    void fieldHeight() {
        LakeRelief x = Reliefs.laid(Reliefs.row(0, -1, 1), Reliefs.row(1000000, -1000000, -5));
        fields(x, HEIGHT, 0, -1, 1, 1000000, -1000000, -5);
    }

    @Says(in = "Promise 7", words = "2 DOWN (a FIELD, SEA; NONE of a HOLLOW),")
    void fieldDown() {
        fields(Reliefs.trough(), DOWN, SEA, SEA, SEA, SEA, SEA, NONE, 5, SEA, SEA, SEA, SEA, SEA);
    }

    @Says(in = "Promise 7", words = "3 the HOLLOW at the end of its WAY (SEA),")
    void fieldWayEnd() {
        fields(Reliefs.trough(), WAY_END, SEA, SEA, SEA, SEA, SEA, 5, 5, SEA, SEA, SEA, SEA, SEA);
    }

    @Says(in = "Promise 7", words = "4 FILL;")
    void fieldFill() {
        LakeRelief x = Reliefs.trough();
        fields(x, FILL, 5, 5, 5, 5, 5, 5, 5, 5, 5, 5, 5, 5);
        x.pour(5, 7);
        checks.due("water changes nothing", 5, x.field(5, FILL));
    }

    @Says(in = "Promise 7", words = "5 the LAKE that is there and has it in its GROUND (NONE);")
    void fieldLake() {
        LakeRelief x = Reliefs.pools();
        fields(x, LAKE, NONE, NONE, NONE, NONE, NONE, NONE, 0, NONE, 1, NONE, NONE, NONE, NONE, NONE, NONE);
        x.pour(6, 4);
        x.pour(8, 2);
        checks.due("both full, none at the rim", NONE, x.field(7, LAKE));
        x.pour(6, 1);
        fields(x, LAKE, NONE, NONE, NONE, NONE, NONE, NONE, 2, 2, 2, NONE, NONE, NONE, NONE, NONE, NONE);
        checks.due("a field of ground that is no hollow, and dry", 0, Reliefs.trough().field(6, LAKE));
    }

    @Says(in = "Promise 7", words = "of SEA 1 to 4 are 0, 5 NONE.")
    void fieldOfSea() {
        LakeRelief x = Reliefs.laid(Reliefs.row(9, 9, 9, 9), Reliefs.row(9, 1, 9), Reliefs.row(9, 9, 9, 9));
        x.pour(5, 3);
        int[] want = {1, 0, 0, 0, 0, NONE};
        for (int what = 0; what < want.length; what++) {
            checks.due("field(7, " + what + ")", want[what], x.field(7, what));
        }
        x.lay(8, 8);
        for (int what = 0; what < want.length; what++) {
            checks.due("field(63, " + what + ")", want[what], x.field(63, what));
        }
    }

    @Says(in = "Promise 7", words = "BAD, NO answer -2000001, -2000002.")
    void fieldRefused() {
        LakeRelief x = Reliefs.trough();
        for (int what = 0; what <= 5; what++) {
            for (int f : new int[] {LEAST, SEA, NONE, -1, 12, 63, 64, GREATEST}) {
                checks.due("field(" + f + ", " + what + ")", -2000001, x.field(f, what));
            }
        }
        x.strip(1, -1, 0);
        x.lay(4, 3);
        for (int what : new int[] {LEAST, -1, 6, GREATEST}) {
            checks.due("field(0, " + what + ")", -2000001, x.field(0, what));
            checks.due("of sea, field(5, " + what + ")", -2000001, x.field(5, what));
        }
        LakeRelief none = new LakeRelief();
        checks.due("no relief", -2000002, none.field(0, 0));
        checks.due("no relief, no field", -2000002, none.field(-1, 0));
        checks.due("no relief, nothing asked", -2000002, none.field(0, 6));
    }

    // ---- promise 8

    @Says(in = "Promise 8", words = "The i-th HOLLOW, by numbers of FIELDS; NONE.")
    void hollowsByNumber() {
        LakeRelief x = Reliefs.star();
        hollows(x, 7, 11, 13, 17);
        checks.due("far behind the last", NONE, x.hollow(GREATEST));
        x.pour(12, 1000);
        hollows(x, 7, 11, 13, 17);
        x.lay(1, 1);
        checks.due("where none is", NONE, x.hollow(0));
        hollows(Reliefs.chequered(), 9, 11, 13, 18, 20, 22, 25, 27, 29, 34, 36, 38, 41, 43, 45, 50, 52, 54);
    }

    @Says(in = "Promise 8", words = "BAD: i below 0;")
    void hollowBelowNone() {
        LakeRelief x = Reliefs.star();
        checks.due("hollow(-1)", BAD, x.hollow(-1));
        checks.due("hollow of the least number", BAD, x.hollow(LEAST));
        x.lay(1, 1);
        checks.due("hollow(-1) where none is", BAD, x.hollow(-1));
    }

    @Says(in = "Promise 8", words = "NO.")
    void hollowOfNoRelief() {
        LakeRelief x = Reliefs.stripsOf(Reliefs.row(1, 2));
        checks.due("hollow(0)", NO, x.hollow(0));
        checks.due("hollow(-1)", NO, x.hollow(-1));
    }
}
