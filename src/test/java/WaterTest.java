/** Water that is poured: where it goes, what joins, THE LEVEL, and promises 13, 14 and 17. */
public final class WaterTest {
    private static final int BAD = LakeRelief.BAD, NO = LakeRelief.NO, NONE = LakeRelief.NONE, SEA = LakeRelief.SEA;
    private static final int LEAST = Integer.MIN_VALUE, GREATEST = Integer.MAX_VALUE;
    /** A lake that is not there. */
    private static final int AWAY = -1;

    private final Checks checks = new Checks();

    public static void main(String[] args) throws ReflectiveOperationException {
        WaterTest test = new WaterTest();
        test.checks.runAll(test);
    }

    /** Asks all lakes for their water, and whether they are there. */
    private void waters(String when, LakeRelief x, int... want) {
        checks.due(when + ": lakes", want.length, x.count(3));
        for (int l = 0; l < want.length; l++) {
            checks.due(when + ": lake " + l + " is there", want[l] == AWAY ? 0 : 1, x.lake(l, 8));
            checks.due(when + ": water of lake " + l, want[l] == AWAY ? 0 : want[l], x.lake(l, 9));
        }
    }

    private void levelIs(String when, LakeRelief x, int l, int above, int below) {
        checks.due(when + ": level of lake " + l + ", above", above, x.level(l, 0));
        checks.due(when + ": level of lake " + l + ", below", below, x.level(l, 1));
    }

    private void counts(String when, LakeRelief x, long... want) {
        for (int what = 0; what < want.length; what++) {
            checks.due(when + ": count(" + what + ")", want[what], x.count(what));
        }
    }

    /** The star with its four hollows of like height: 7, 11, 13, 17 (1) around 12 (5). */
    private static LakeRelief likeStar() {
        return Reliefs.laid(
            Reliefs.row(9, 9, 9, 9, 9),
            Reliefs.row(9, 9, 1, 9, 9),
            Reliefs.row(9, 1, 5, 1, 9),
            Reliefs.row(9, 9, 1, 9, 9),
            Reliefs.row(9, 9, 9, 9, 9));
    }

    /** Lake 0 at 8 (1) has room for two, lake 1 at 6 (3) for none: its rim, 7, is as high as it is. */
    private static LakeRelief shelf() {
        return Reliefs.laid(
            Reliefs.row(9, 9, 9, 9, 9),
            Reliefs.row(9, 3, 3, 1, 9),
            Reliefs.row(9, 9, 9, 9, 9));
    }

    /** Lake 0 at 16 (1) has room for two; 8 and 13 (3) and their double, 3, whose rim is 15, have none. */
    private static LakeRelief longShelf() {
        return Reliefs.laid(
            Reliefs.row(9, 9, 9, 9, 9, 9),
            Reliefs.row(9, 9, 3, 9, 9, 9),
            Reliefs.row(9, 3, 3, 3, 1, 9),
            Reliefs.row(9, 9, 9, 9, 9, 9));
    }

    // ---- where it goes

    @Says(in = "Terms", words = "POURED are grains, at a FIELD.")
    void pouredAtEachField() {
        LakeRelief x = Reliefs.pools();
        int[] gone = {1, 1, 1, 1, 1, 1, 0, 0, 0, 1, 1, 1, 1, 1, 1};
        for (int f = 0; f < 15; f++) {
            checks.due("pour at " + f, gone[f], x.pour(f, 1));
        }
        checks.due("grains poured", 15, x.count(7));
        waters("then", x, 2, 1, AWAY);
    }

    @Says(in = "Terms", words = "At first all LAKES of HOLLOWS are there, and no DOUBLES, each with no WATER.")
    void atFirstHollowsAlone() {
        waters("star", Reliefs.star(), 0, 0, 0, 0, AWAY, AWAY, AWAY);
        waters("no room", Reliefs.flat(), 0, 0, AWAY);
        waters("sea", Reliefs.sea(8, 8));
        LakeRelief most = Reliefs.chequered();
        for (int l = 0; l < 35; l++) {
            checks.due("lake " + l + " is there", l < 18 ? 1 : 0, most.lake(l, 8));
        }
    }

    @Says(in = "Terms", words = "Grains come by its WAY to a HOLLOW, or go to SEA.")
    void grainsGoByTheWay() {
        LakeRelief x = Reliefs.laid(
            Reliefs.row(9, 9, 9, 9, 9, 9),
            Reliefs.row(9, 1, 6, 5, 2, 9),
            Reliefs.row(9, 9, 9, 9, 9, 9));
        checks.due("down a slope", 0, x.pour(9, 1));
        waters("down a slope", x, 0, 1, AWAY);
        checks.due("from the rim to the lowest side", 0, x.pour(8, 1));
        waters("from the rim", x, 1, 1, AWAY);
        checks.due("from the edge", 1, x.pour(1, 1));
        LakeRelief ledge = Reliefs.laid(
            Reliefs.row(9, 9, 9, 9, 9),
            Reliefs.row(9, 1, 8, 7, 6),
            Reliefs.row(9, 9, 9, 9, 9));
        checks.due("by a way of two fields to sea", 3, ledge.pour(8, 3));
        checks.due("by the other side of the ledge", 0, ledge.pour(7, 3));
        waters("ledge", ledge, 3);
    }

    @Says(in = "Terms", words = "They fill the LAKE that is there and has this HOLLOW in its GROUND, up to its MOST;")
    void grainsFillTheLakeThatIsThere() {
        LakeRelief x = Reliefs.pools();
        checks.due("one below its most", 0, x.pour(6, 3));
        waters("one below", x, 3, 0, AWAY);
        checks.due("its most", 0, x.pour(6, 1));
        waters("most", x, 4, 0, AWAY);
        checks.due("above its most", 0, x.pour(6, 1));
        waters("above", x, 4, 1, AWAY);
        x.pour(6, 2);
        waters("joined", x, AWAY, AWAY, 7);
        checks.due("by one hollow to the double", 0, x.pour(6, 1));
        checks.due("by the other hollow to the double", 0, x.pour(8, 1));
        checks.due("by the old rim to the double", 0, x.pour(7, 1));
        waters("all three", x, AWAY, AWAY, 10);
    }

    @Says(in = "Terms", words = "it is FULL with that.")
    void fullAtItsMostAndNotBelow() {
        LakeRelief x = Reliefs.pools();
        x.pour(8, 1);
        x.pour(6, 5);
        waters("the other one was not full, and is now", x, 4, 2, AWAY);
        x.pour(8, 1);
        waters("the other one is full", x, AWAY, AWAY, 7);
        LakeRelief nearly = Reliefs.pools();
        nearly.pour(6, 3);
        nearly.pour(8, 3);
        waters("over to the one that lacks one", nearly, 4, 2, AWAY);
    }

    @Says(in = "Terms", words = "Of the rest: its RIM being one to SEA: all goes to SEA.")
    void restGoesToSea() {
        LakeRelief x = Reliefs.stairs();
        checks.due("over the upper rim", 2, x.pour(6, 7));
        waters("the lake beside that rim gets nothing", x, 5, 0);
        checks.due("at the rim, whose way goes to the full one", 3, x.pour(7, 3));
        checks.due("over the lower rim", 1, x.pour(8, 3));
        waters("both full", x, 5, 2);
        checks.due("both full, all of it", 1000000, x.pour(6, 1000000));
        waters("no joining", x, 5, 2);
        LakeRelief joined = Reliefs.pools();
        checks.due("a double's rest", 1000 - 18, joined.pour(6, 1000));
        waters("a full double", joined, AWAY, AWAY, 18);
    }

    @Says(in = "Terms", words = {"Else it is PART of a DOUBLE; if the other PART is there, and FULL, both go,",
        "and the DOUBLE is there with the WATER of both: the rest goes on in that."})
    void restJoinsWithTheOtherPart() {
        LakeRelief x = Reliefs.pools();
        x.pour(6, 4);
        x.pour(8, 2);
        checks.due("one more", 0, x.pour(8, 1));
        waters("joined, with one more", x, AWAY, AWAY, 7);
        LakeRelief star = Reliefs.star();
        star.pour(17, 5);
        star.pour(7, 4);
        star.pour(11, 3);
        star.pour(13, 2);
        waters("all full", star, 5, 4, 3, 2, AWAY, AWAY, AWAY);
        checks.due("one more, from the last one on", 0, star.pour(13, 1));
        waters("joined thrice", star, AWAY, AWAY, AWAY, AWAY, AWAY, AWAY, 15);
    }

    @Says(in = "Terms", words = "if the other PART is there, and FULL")
    void otherPartThatIsNotThereIsNotFull() {
        LakeRelief x = Reliefs.star();
        x.pour(11, 3);
        checks.due("over to a part of the double that is not there", 0, x.pour(11, 1));
        waters("over", x, 1, 0, 3, 0, AWAY, AWAY, AWAY);
        x.pour(17, 4);
        x.pour(7, 4);
        waters("both parts of it are full", x, 5, 4, 3, 0, AWAY, AWAY, AWAY);
        checks.due("they join, it with them, and over to the last", 0, x.pour(11, 1));
        waters("over to the last", x, AWAY, AWAY, AWAY, 1, AWAY, 12, AWAY);
    }

    // A double of no room has as much as its MOST when it is not there, and is not FULL for all that.
    @Says(in = "Terms", words = "if the other PART is there, and FULL, both go,")
    void otherPartOfNoRoomThatIsNotThere() {
        LakeRelief x = longShelf();
        x.pour(16, 2);
        waters("full", x, 2, 0, 0, AWAY, AWAY);
        checks.due("over to the shelf, which joins, and joins it", 0, x.pour(16, 1));
        waters("all joined, none left behind", x, AWAY, AWAY, AWAY, AWAY, 3);
        checks.due("lakes there", 1, x.count(4));
    }

    @Says(in = "Terms", words = {"Else the rest goes over the RIM: to the LOWEST NEIGHBOUR of the RIM",
        "that is in the other PART's GROUND,"})
    void restGoesOverToTheLowestOfTheOther() {
        LakeRelief x = Reliefs.pools();
        x.pour(6, 5);
        waters("to the other side, though its own is lower", x, 4, 1, AWAY);
        LakeRelief star = Reliefs.star();
        star.pour(13, 3);
        waters("to the lowest of three", star, 1, 0, 0, 2, AWAY, AWAY, AWAY);
        LakeRelief like = likeStar();
        like.pour(17, 5);
        waters("to the least number of three like ones", like, 1, 0, 0, 4, AWAY, AWAY, AWAY);
        LakeRelief second = likeStar();
        second.pour(7, 5);
        waters("to the other part, not to the least number", second, 4, 1, 0, 0, AWAY, AWAY, AWAY);
    }

    @Says(in = "Terms", words = "and by the WAY from there.")
    void restGoesOnByTheWay() {
        LakeRelief x = Reliefs.laid(
            Reliefs.row(9, 9, 9, 9, 9, 9, 9),
            Reliefs.row(9, 1, 5, 4, 3, 2, 9),
            Reliefs.row(9, 9, 9, 9, 9, 9, 9));
        x.pour(8, 5);
        waters("down a slope behind the rim", x, 4, 1, AWAY);
        LakeRelief split = Reliefs.laid(
            Reliefs.row(20, 20, 20, 20, 20, 20, 20, 20),
            Reliefs.row(20, 3, 9, 6, 7, 6, 0, 20),
            Reliefs.row(20, 20, 20, 2, 20, 20, 20, 20),
            Reliefs.row(20, 20, 20, 20, 20, 20, 20, 20));
        split.pour(9, 7);
        waters("to the near hollow of the other side, not to its lowest", split, 0, 1, 6, AWAY, AWAY);
    }

    @Says(in = "Terms", words = "(A LAKE whose MOST is 0 is FULL at once.")
    void lakeOfNoRoomIsFullAtOnce() {
        LakeRelief flat = Reliefs.flat();
        checks.due("one grain", 0, flat.pour(9, 1));
        waters("joined at once", flat, AWAY, AWAY, 1);
        LakeRelief over = shelf();
        checks.due("one grain where no room is", 0, over.pour(6, 1));
        waters("over at once", over, 1, 0, AWAY);
        LakeRelief joining = shelf();
        joining.pour(8, 3);
        waters("the other is full with nothing", joining, AWAY, AWAY, 3);
        LakeRelief twice = longShelf();
        checks.due("one grain on a long shelf", 0, twice.pour(8, 1));
        waters("a double of no room is full at once too", twice, 1, AWAY, AWAY, 0, AWAY);
        LakeRelief toSea = Reliefs.laid(
            Reliefs.row(3, 3, 3, 3),
            Reliefs.row(9, 9, 3, 3),
            Reliefs.row(9, 3, 3, 3),
            Reliefs.row(9, 9, 3, 3));
        checks.due("no room", 0, toSea.lake(0, 7));
        checks.due("all to sea at once", 4, toSea.pour(9, 4));
        waters("still there", toSea, 0);
    }

    @Says(in = "Terms", words = "Joining is only asked when something is left to go over.)")
    void nothingLeftJoinsNothing() {
        LakeRelief x = Reliefs.pools();
        x.pour(6, 4);
        x.pour(8, 2);
        waters("both full", x, 4, 2, AWAY);
        checks.due("no grain", 0, x.pour(6, 0));
        waters("no grain", x, 4, 2, AWAY);
        LakeRelief flat = Reliefs.flat();
        checks.due("no grain where no room is", 0, flat.pour(6, 0));
        waters("no grain where no room is", flat, 0, 0, AWAY);
        LakeRelief star = Reliefs.star();
        star.pour(17, 9);
        waters("two full", star, 5, 4, 0, 0, AWAY, AWAY, AWAY);
        star.pour(11, 3);
        waters("three full", star, 5, 4, 3, 0, AWAY, AWAY, AWAY);
        star.pour(7, 2);
        waters("a full double joins a full lake", star, AWAY, AWAY, AWAY, 2, AWAY, 12, AWAY);
    }

    // ---- the level

    @Says(in = "Terms", words = "THE LEVEL of a LAKE that is there: up to which it HOLDS its WATER, a fraction;")
    void levelUpToWhichItHolds() {
        LakeRelief x = Reliefs.trough();
        int[][] want = {{-3, 1}, {-2, 1}, {-1, 1}, {-1, 2}, {0, 1}, {1, 2}, {1, 1}, {3, 2}, {2, 1}, {5, 2}, {3, 1},
            {7, 2}, {4, 1}, {9, 2}, {5, 1}, {5, 1}};
        for (int water = 0; water < want.length; water++) {
            levelIs("water " + water, x, 0, want[water][0], want[water][1]);
            x.pour(5, 1);
        }
        LakeRelief star = Reliefs.star();
        star.pour(13, 12);
        levelIs("a full double, its rim not its own", star, 4, 5, 1);
        star.pour(13, 3);
        levelIs("the last double, fifths", star, 6, 26, 5);
        star.pour(13, 4);
        levelIs("the last double, whole", star, 6, 6, 1);
        star.pour(13, 100);
        levelIs("the last double, full", star, 6, 9, 1);
    }

    @Says(in = "Terms", words = "that of the HOLLOW (the least height) with none.")
    void levelWithNoWater() {
        LakeRelief x = Reliefs.star();
        int[] heights = {0, 1, 2, 3};
        for (int l = 0; l < 4; l++) {
            levelIs("dry", x, l, heights[l], 1);
        }
        levelIs("no room, dry", Reliefs.flat(), 0, 3, 1);
        levelIs("below 0, dry", Reliefs.trough(), 0, -3, 1);
        levelIs("the deepest, dry", Reliefs.deep(), 0, -1000000, 1);
        LakeRelief shelf = longShelf();
        shelf.pour(8, 1);
        levelIs("a double of no room, dry", shelf, 3, 3, 1);
        LakeRelief likes = Reliefs.laid(
            Reliefs.row(9, 9, 9, 9),
            Reliefs.row(9, 4, 4, 9),
            Reliefs.row(9, 9, 9, 9));
        levelIs("two like fields, dry", likes, 0, 4, 1);
        likes.pour(5, 1);
        levelIs("two like fields, one grain", likes, 0, 9, 2);
    }

    // ---- promise 13

    @Says(in = "Promise 13", words = "n grains (0 to 1000000) are POURED at a FIELD")
    void pourOfNoneToAMillion() {
        LakeRelief x = Reliefs.trough();
        checks.due("none", 0, x.pour(5, 0));
        checks.due("poured", 0, x.count(7));
        checks.due("the most", 1000000 - 14, x.pour(5, 1000000));
        checks.due("poured", 1000000, x.count(7));
        checks.due("one above the most", BAD, x.pour(5, 1000001));
        checks.due("one below none", BAD, x.pour(5, -1));
        checks.due("poured still", 1000000, x.count(7));
    }

    @Says(in = "Promise 13", words = "(SEA: all are gone):")
    void pourAtSea() {
        LakeRelief x = Reliefs.laid(Reliefs.row(9, 9, 9, 9), Reliefs.row(9, 1, 9), Reliefs.row(9, 9, 9, 9));
        checks.due("none at sea", 0, x.pour(7, 0));
        checks.due("one at sea", 1, x.pour(7, 1));
        checks.due("the most at sea", 1000000, x.pour(7, 1000000));
        counts("then", x, 12, 11, 1, 1, 1, 0, 1000001, 1000001);
    }

    @Says(in = "Promise 13", words = "how many of them went to SEA.")
    void pourTellsWhatWent() {
        LakeRelief x = Reliefs.star();
        checks.due("to the brim", 0, x.pour(12, 34));
        checks.due("one more", 1, x.pour(12, 1));
        checks.due("a part of them", 1000000 - 34, Reliefs.star().pour(7, 1000000));
        checks.due("at the edge", 7, x.pour(0, 7));
    }

    @Says(in = "Promise 13", words = "BAD;")
    void pourRefused() {
        LakeRelief x = Reliefs.trough();
        for (int f : new int[] {LEAST, SEA, NONE, -1, 12, 63, 64, GREATEST}) {
            checks.due("pour(" + f + ", 1)", BAD, x.pour(f, 1));
            checks.due("pour(" + f + ", 0)", BAD, x.pour(f, 0));
        }
        for (int n : new int[] {LEAST, -1, 1000001, GREATEST}) {
            checks.due("pour(5, " + n + ")", BAD, x.pour(5, n));
            checks.due("at the edge, pour(0, " + n + ")", BAD, x.pour(0, n));
        }
        counts("nothing changed", x, 12, 12, 1, 1, 1, 0, 0, 0);
    }

    @Says(in = "Promise 13", words = "NO.")
    void pourOnNoRelief() {
        LakeRelief x = new LakeRelief();
        checks.due("pour(0, 1)", NO, x.pour(0, 1));
        checks.due("pour(-1, -1)", NO, x.pour(-1, -1));
        x.lay(1, 1);
        checks.due("nothing was poured", 0, x.count(7));
    }

    // ---- promise 14

    @Says(in = "Promise 14", words = {"THE LEVEL of a LAKE that is there, in lowest terms:", "0 what stands above,"})
    void levelInLowestTerms() {
        LakeRelief x = Reliefs.laid(
            Reliefs.row(9, 9, 9, 9),
            Reliefs.row(9, -5, -5, 9),
            Reliefs.row(9, -5, -5, 9),
            Reliefs.row(9, 9, 9, 9));
        int[][] want = {{-5, 1}, {-19, 4}, {-9, 2}, {-17, 4}, {-4, 1}};
        for (int water = 0; water < want.length; water++) {
            levelIs("quarters below 0, water " + water, x, 0, want[water][0], want[water][1]);
            x.pour(5, 1);
        }
        LakeRelief deep = Reliefs.deep();
        deep.pour(4, 1000000);
        levelIs("half of the deepest", deep, 0, 0, 1);
        deep.pour(4, 999999);
        levelIs("one below the highest", deep, 0, 999999, 1);
        LakeRelief most = Reliefs.chequered();
        for (int k = 0; k < 36; k++) {
            checks.due("a million", 0, most.pour(9, 1000000));
        }
        levelIs("thirty-six millions on thirty-six fields", most, 34, 1999999, 2);
    }

    @Says(in = "Promise 14", words = "1 below (above 0).")
    void levelBelowIsAboveNought() {
        LakeRelief x = Reliefs.trough();
        for (int water = 0; water <= 15; water++) {
            checks.holds("below, water " + water, x.level(0, 1) > 0);
            x.pour(5, 1);
        }
        LakeRelief nought = Reliefs.laid(Reliefs.row(9, 9, 9), Reliefs.row(9, 0, 9), Reliefs.row(9, 9, 9));
        levelIs("at 0, dry", nought, 0, 0, 1);
    }

    @Says(in = "Promise 14", words = "BAD: also one that is not there;")
    void levelOfOneThatIsNotThere() {
        LakeRelief x = Reliefs.pools();
        levelIs("a double that is not there", x, 2, -2000001, -2000001);
        x.pour(7, 10);
        levelIs("a part that is gone", x, 0, -2000001, -2000001);
        levelIs("the other part that is gone", x, 1, -2000001, -2000001);
        levelIs("the double that is there", x, 2, 19, 3);
    }

    @Says(in = "Promise 14", words = "NO: these answer -2000001, -2000002.")
    void levelRefused() {
        LakeRelief x = Reliefs.pools();
        for (int l : new int[] {LEAST, SEA, NONE, -1, 3, 34, 35, GREATEST}) {
            levelIs("no lake", x, l, -2000001, -2000001);
        }
        for (int what : new int[] {LEAST, -1, 2, GREATEST}) {
            checks.due("level(0, " + what + ")", -2000001, x.level(0, what));
        }
        LakeRelief none = new LakeRelief();
        levelIs("no relief", none, 0, -2000002, -2000002);
        levelIs("no relief, no lake", none, -1, -2000002, -2000002);
        checks.due("no relief, nothing asked", -2000002, none.level(0, 2));
    }

    // ---- promise 17

    @Says(in = "Promise 17", words = {"How many: 0 FIELDS,", "1 that are no SEA,"})
    void countOfFields() {
        LakeRelief x = Reliefs.laid(Reliefs.row(1, 1, 1), Reliefs.row(1), null);
        counts("with sea", x, 9, 4);
        x.lay(8, 8);
        counts("with more sea", x, 64, 4);
        counts("sea alone", Reliefs.sea(1, 1), 1, 0, 0, 0, 0, 0, 0, 0);
        counts("all fields", Reliefs.chequered(), 64, 64, 18, 35, 18, 0, 0, 0);
    }

    @Says(in = "Promise 17", words = {"2 HOLLOWS,", "3 LAKES,", "4 that are there,"})
    void countOfLakes() {
        LakeRelief x = Reliefs.star();
        counts("dry", x, 25, 25, 4, 7, 4);
        x.pour(13, 12);
        counts("one double", x, 25, 25, 4, 7, 3);
        x.pour(13, 3);
        counts("all joined", x, 25, 25, 4, 7, 1);
        counts("apart", Reliefs.stairs(), 15, 15, 2, 2, 2);
    }

    @Says(in = "Promise 17", words = {"5 WATER in them,", "6 grains gone to SEA,", "7 grains POURED."})
    void countOfGrains() {
        LakeRelief x = Reliefs.star();
        x.pour(13, 12);
        counts("some", x, 25, 25, 4, 7, 3, 12, 0, 12);
        x.pour(0, 6);
        x.pour(12, 23);
        counts("spilled", x, 25, 25, 4, 7, 1, 34, 7, 41);
        LakeRelief much = Reliefs.sea(1, 1);
        for (int k = 0; k < 500; k++) {
            much.pour(0, 1000000);
        }
        counts("much gone", much, 1, 0, 0, 0, 0, 0, 500000000, 500000000);
    }

    @Says(in = "Promise 17", words = "BAD; NO: these answer -1, -2.")
    void countRefused() {
        LakeRelief x = Reliefs.star();
        LakeRelief none = new LakeRelief();
        for (int what : new int[] {LEAST, -1, 8, GREATEST}) {
            checks.due("count(" + what + ")", -1, x.count(what));
            checks.due("no relief, count(" + what + ")", -2, none.count(what));
        }
        for (int what = 0; what <= 7; what++) {
            checks.due("no relief, count(" + what + ")", -2, none.count(what));
        }
    }
}
