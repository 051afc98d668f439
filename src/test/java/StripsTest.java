/** The strips: what they are, what refuses an act with them, and promises 1 to 5. */
public final class StripsTest {
    private static final int BAD = LakeRelief.BAD, NO = LakeRelief.NO;
    private static final int NULL = -11, INDEX = -12, SIZE = -13, STORE = -14;
    private static final long TOLD_BAD = 10000000001L, TOLD_NULL = 10000000011L, TOLD_INDEX = 10000000012L;
    private static final int LEAST = Integer.MIN_VALUE, GREATEST = Integer.MAX_VALUE;
    private static final int[] NO_STRIPS = {LEAST, -1, 8, 9, GREATEST};

    private final Checks checks = new Checks();

    public static void main(String[] args) throws ReflectiveOperationException {
        StripsTest test = new StripsTest();
        test.checks.runAll(test);
    }

    private void places(String when, LakeRelief x, int r, long... want) {
        for (int i = 0; i < want.length; i++) {
            checks.due(when + ": place " + i + " of strip " + r, want[i], x.told(r, i));
        }
        checks.due(when + ": behind the last place of strip " + r, TOLD_INDEX, x.told(r, want.length));
    }

    /** Strip 0 of three ints, 1 of three bytes, 2 of three shorts, 3 of no ints; 4 and more are missing. */
    private static LakeRelief sorts() {
        LakeRelief x = Reliefs.stripsOf(Reliefs.row(1, 2, 3));
        x.strip(1, 0, 3);
        x.strip(2, 1, 3);
        x.strip(3, 2, 0);
        return x;
    }

    // ---- what they are

    @Says(in = "What it is", words = "STRIPS 0 to 7 are MISSING (at first)")
    void eightStripsMissingAtFirst() {
        LakeRelief x = new LakeRelief();
        for (int r = 0; r <= 7; r++) {
            checks.due("told of strip " + r, TOLD_NULL, x.told(r, 0));
            checks.due("strip " + r, 0, x.strip(r, 0, 1));
            checks.due("told of strip " + r + " then", 0, x.told(r, 0));
        }
        for (int r : NO_STRIPS) {
            checks.due("strip " + r, BAD, x.strip(r, 0, 1));
            checks.due("told of strip " + r, TOLD_BAD, x.told(r, 0));
        }
    }

    @Says(in = "What it is", words = "or rows of bytes (0), shorts (1), ints (2)")
    void threeSorts() {
        LakeRelief x = new LakeRelief();
        long[] kept = {64, 16448, 1077952576};
        for (int kind = 0; kind <= 2; kind++) {
            checks.due("strip of kind " + kind, 0, x.strip(0, kind, 1));
            x.put(0, 0, 1077952576 | 16448 | 64);
            checks.due("kept by kind " + kind, kept[kind], x.told(0, 0));
        }
    }

    @Says(in = "What it is", words = "of 0 to 12 places.")
    void noneToTwelvePlaces() {
        LakeRelief x = new LakeRelief();
        for (int kind = 0; kind <= 2; kind++) {
            for (int n = 0; n <= 12; n++) {
                checks.due("strip of " + n, 0, x.strip(0, kind, n));
                checks.due("last of " + n, n == 0 ? TOLD_INDEX : 0, x.told(0, n - 1));
                checks.due("behind the last of " + n, TOLD_INDEX, x.told(0, n));
            }
        }
    }

    @Says(in = "What it is", words = "An object is used for at most 512 calls after it has been made;")
    void fiveHundredAndTwelveCalls() {
        LakeRelief x = new LakeRelief();
        checks.due("call 1", 0, x.lay(8, 8));
        for (int call = 2; call < 512; call++) {
            checks.due("call " + call, 1000000, x.pour(call % 64, 1000000));
        }
        checks.due("call 512", 510000000, x.count(6));
    }

    // ---- what refuses an act with them

    @Says(in = "Terms", words = "NULL -11 it is MISSING;")
    void missingIsNull() {
        LakeRelief x = sorts();
        checks.due("put", -11, x.put(4, 0, 1));
        checks.due("copy", -11, x.copy(4, 0, 0, 0, 1));
        checks.due("told", 10000000011L, x.told(4, 0));
        checks.due("a row of no places is not missing", INDEX, x.put(3, 0, 1));
        x.strip(0, -1, 3);
        checks.due("put once it is missing again", -11, x.put(0, 0, 1));
    }

    @Says(in = "Terms", words = "INDEX -12 a place beyond it;")
    void beyondIsIndex() {
        LakeRelief x = sorts();
        checks.due("put behind the last", -12, x.put(0, 3, 1));
        checks.due("put ahead of the first", -12, x.put(0, -1, 1));
        checks.due("copy", -12, x.copy(0, 1, 0, 0, 3));
        checks.due("told", 10000000012L, x.told(0, 3));
        checks.due("put in the last", 0, x.put(0, 2, 1));
    }

    @Says(in = "Terms", words = "SIZE -13 a number below 0;")
    void belowNoneIsSize() {
        LakeRelief x = new LakeRelief();
        checks.due("strip of -1", -13, x.strip(0, 0, -1));
        checks.due("strip of the least number", -13, x.strip(7, 2, LEAST));
        checks.due("strip of 0", 0, x.strip(0, 0, 0));
    }

    @Says(in = "Terms", words = "STORE -14 STRIPS of unlike sorts.")
    void unlikeSortsIsStore() {
        LakeRelief x = sorts();
        for (int from = 0; from < 3; from++) {
            for (int to = 0; to < 3; to++) {
                checks.due("copy from " + from + " to " + to, from == to ? 0 : -14, x.copy(from, 0, to, 0, 1));
            }
        }
    }

    @Says(in = "Terms", words = "What refuses an act with them, of several the first as told there:")
    void theFirstOfSeveralRefuses() {
        LakeRelief x = sorts();
        checks.due("strip: BAD by the strip, SIZE", BAD, x.strip(8, 0, -1));
        checks.due("strip: BAD by the kind, SIZE", BAD, x.strip(0, 3, -1));
        checks.due("put: BAD, INDEX", BAD, x.put(8, -1, 0));
        checks.due("put: NULL, INDEX", NULL, x.put(4, -1, 0));
        checks.due("told: BAD, INDEX", TOLD_BAD, x.told(-1, -1));
        checks.due("told: NULL, INDEX", TOLD_NULL, x.told(4, 12));
        checks.due("copy: BAD by the second, NULL by the first, INDEX", BAD, x.copy(4, -1, 8, 0, 0));
        checks.due("copy: BAD by the first, NULL by the second, INDEX", BAD, x.copy(-1, 0, 4, -1, 0));
        checks.due("copy: NULL by the first, INDEX", NULL, x.copy(4, 0, 0, 0, -1));
        checks.due("copy: NULL by the second, INDEX", NULL, x.copy(0, 4, 4, 0, 1));
        checks.due("copy: STORE, INDEX by a number below 0", STORE, x.copy(0, 0, 1, 0, -1));
        checks.due("copy: STORE, INDEX by going beyond", STORE, x.copy(1, 3, 2, 0, 1));
        checks.due("copy: STORE, INDEX by an empty one", STORE, x.copy(3, 0, 1, 0, 1));
    }

    // ---- promise 1

    @Says(in = "Promise 1", words = "All STRIPS are MISSING;")
    void newObjectHasNoStrips() {
        LakeRelief other = sorts();
        LakeRelief x = new LakeRelief();
        for (int r = 0; r < 8; r++) {
            checks.due("told of strip " + r, TOLD_NULL, x.told(r, 0));
            checks.due("put in strip " + r, NULL, x.put(r, 0, 1));
            checks.due("copy of strip " + r, NULL, x.copy(r, 0, r, 0, 0));
        }
        places("an object made ahead keeps its own", other, 0, 1, 2, 3);
    }

    @Says(in = "Promise 1", words = "no RELIEF.")
    void newObjectHasNoRelief() {
        LakeRelief other = Reliefs.trough();
        LakeRelief x = new LakeRelief();
        for (int what = 0; what <= 7; what++) {
            checks.due("count(" + what + ")", NO, x.count(what));
        }
        checks.due("hollow", NO, x.hollow(0));
        checks.due("an object made ahead keeps its own", 12, other.count(0));
    }

    // ---- promise 2

    @Says(in = "Promise 2", words = "STRIP r becomes a row of n places, all 0, of bytes, shorts, ints (kind 0 to 2)")
    void stripIsAllNoughts() {
        LakeRelief x = new LakeRelief();
        for (int kind = 0; kind <= 2; kind++) {
            for (int i = 0; i < 12; i++) {
                x.strip(7, 2, 12);
                x.put(7, i, 77);
                checks.due("strip anew", 0, x.strip(7, kind, i));
                checks.due("strip longer", 0, x.strip(7, kind, 12));
                checks.due("nothing of the old one comes back", 0, x.told(7, i));
            }
        }
        places("a row of twelve", x, 7, 0, 0, 0, 0, 0, 0, 0, 0, 0, 0, 0, 0);
        checks.due("the strip ahead is not touched", TOLD_NULL, x.told(6, 0));
    }

    @Says(in = "Promise 2", words = "or MISSING (-1; n counts for nothing): 0.")
    void stripBecomesMissing() {
        LakeRelief x = new LakeRelief();
        for (int n : new int[] {LEAST, -1, 0, 12, 13, GREATEST}) {
            x.strip(7, 2, 3);
            checks.due("missing, n " + n, 0, x.strip(7, -1, n));
            checks.due("told then", TOLD_NULL, x.told(7, 0));
        }
        checks.due("missing once more", 0, x.strip(7, -1, 0));
        checks.due("a kind below missing", BAD, x.strip(7, -2, 0));
    }

    @Says(in = "Promise 2", words = "BAD: also n above 12;")
    void stripTooLongOrNone() {
        LakeRelief x = sorts();
        for (int kind = 0; kind <= 2; kind++) {
            checks.due("13 places", BAD, x.strip(0, kind, 13));
            checks.due("the most places", BAD, x.strip(0, kind, GREATEST));
        }
        for (int r : NO_STRIPS) {
            checks.due("strip " + r, BAD, x.strip(r, 0, 3));
            checks.due("strip " + r + ", missing", BAD, x.strip(r, -1, 0));
        }
        for (int kind : new int[] {LEAST, -2, 3, GREATEST}) {
            checks.due("kind " + kind, BAD, x.strip(0, kind, 3));
        }
        places("nothing changed", x, 0, 1, 2, 3);
    }

    @Says(in = "Promise 2", words = "SIZE.")
    void stripOfLessThanNone() {
        LakeRelief x = sorts();
        for (int kind = 0; kind <= 2; kind++) {
            checks.due("-1 places", SIZE, x.strip(0, kind, -1));
            checks.due("the fewest places", SIZE, x.strip(0, kind, LEAST));
        }
        places("nothing changed", x, 0, 1, 2, 3);
    }

    // ---- promise 3

    @Says(in = "Promise 3", words = "Place i of a STRIP becomes v, cut to what it keeps: 0.")
    void putCutsToWhatIsKept() {
        int[] values = {0, 127, 128, 255, 256, -128, -129, 32767, 32768, 65535, 65536, -32768, -32769, GREATEST, LEAST};
        int[] bytes = {0, 127, -128, -1, 0, -128, 127, -1, 0, -1, 0, 0, -1, -1, 0};
        int[] shorts = {0, 127, 128, 255, 256, -128, -129, 32767, -32768, -1, 0, -32768, 32767, -1, 0};
        LakeRelief x = new LakeRelief();
        for (int r = 0; r < 3; r++) {
            x.strip(r, r, 12);
        }
        for (int k = 0; k < values.length; k++) {
            for (int r = 0; r < 3; r++) {
                checks.due("put of " + values[k], 0, x.put(r, 11, values[k]));
            }
            checks.due("byte of " + values[k], bytes[k], x.told(0, 11));
            checks.due("short of " + values[k], shorts[k], x.told(1, 11));
            checks.due("int of " + values[k], values[k], x.told(2, 11));
        }
        x.put(2, 11, 7);
        x.put(2, 0, 5);
        places("only these places", x, 2, 5, 0, 0, 0, 0, 0, 0, 0, 0, 0, 0, 7);
    }

    @Says(in = "Promise 3", words = "BAD;")
    void putInNoStrip() {
        LakeRelief x = sorts();
        for (int r : NO_STRIPS) {
            checks.due("put in strip " + r, BAD, x.put(r, 0, 9));
        }
        places("nothing changed", x, 0, 1, 2, 3);
    }

    @Says(in = "Promise 3", words = "NULL;")
    void putInMissing() {
        LakeRelief x = sorts();
        for (int r = 4; r < 8; r++) {
            checks.due("put in strip " + r, NULL, x.put(r, 0, 9));
            checks.due("it is missing still", TOLD_NULL, x.told(r, 0));
        }
    }

    @Says(in = "Promise 3", words = "INDEX.")
    void putBeyond() {
        LakeRelief x = sorts();
        for (int i : new int[] {LEAST, -1, 3, 11, 12, GREATEST}) {
            for (int r = 0; r < 3; r++) {
                checks.due("put in strip " + r + " at " + i, INDEX, x.put(r, i, 9));
            }
            checks.due("put in an empty one at " + i, INDEX, x.put(3, i, 9));
        }
        checks.due("put in an empty one at 0", INDEX, x.put(3, 0, 9));
        places("nothing changed", x, 0, 1, 2, 3);
        x.strip(0, 2, 12);
        places("nothing was kept behind its end", x, 0, 0, 0, 0, 0, 0, 0, 0, 0, 0, 0, 0, 0);
    }

    // ---- promise 4

    @Says(in = "Promise 4", words = "n places of STRIP r from i on come to STRIP t from j on")
    void copyBetweenStrips() {
        LakeRelief x = Reliefs.stripsOf(Reliefs.row(1, 2, 3, 4), Reliefs.row(9, 9, 9, 9, 9));
        checks.due("copy up to both ends", 0, x.copy(0, 1, 1, 2, 3));
        places("copied", x, 1, 9, 9, 2, 3, 4);
        places("those that were copied stay", x, 0, 1, 2, 3, 4);
        checks.due("copy all of the one", 0, x.copy(0, 0, 1, 0, 4));
        places("copied", x, 1, 1, 2, 3, 4, 4);
        for (int kind = 0; kind <= 1; kind++) {
            x.strip(2, kind, 1);
            x.strip(3, kind, 12);
            x.put(2, 0, -1);
            checks.due("copy one of kind " + kind, 0, x.copy(2, 0, 3, 11, 1));
            checks.due("copied", -1, x.told(3, 11));
        }
    }

    @Says(in = "Promise 4", words = "(each as it was ahead of all): 0.")
    void copyWithinOneStrip() {
        LakeRelief x = new LakeRelief();
        for (int kind = 0; kind <= 2; kind++) {
            x.strip(kind, kind, 5);
            for (int i = 0; i < 5; i++) {
                x.put(kind, i, i + 1);
            }
            checks.due("copy up", 0, x.copy(kind, 0, kind, 1, 4));
            places("copied up", x, kind, 1, 1, 2, 3, 4);
            checks.due("copy down", 0, x.copy(kind, 2, kind, 1, 3));
            places("copied down", x, kind, 1, 2, 3, 4, 4);
            checks.due("copy to where it is", 0, x.copy(kind, 0, kind, 0, 5));
            places("as it was", x, kind, 1, 2, 3, 4, 4);
        }
    }

    @Says(in = "Promise 4", words = "n places of STRIP r from i on come to STRIP t from j on (each")
    void copyOfNothing() {
        LakeRelief x = Reliefs.stripsOf(Reliefs.row(1, 2, 3), Reliefs.row(7, 8), Reliefs.row());
        checks.due("nothing at the starts", 0, x.copy(0, 0, 1, 0, 0));
        checks.due("nothing at the ends", 0, x.copy(0, 3, 1, 2, 0));
        checks.due("nothing of an empty one", 0, x.copy(2, 0, 1, 2, 0));
        checks.due("nothing to an empty one", 0, x.copy(0, 3, 2, 0, 0));
        places("nothing changed", x, 1, 7, 8);
    }

    @Says(in = "Promise 4", words = "BAD;")
    void copyOfNoStrip() {
        LakeRelief x = sorts();
        for (int r : NO_STRIPS) {
            checks.due("copy from strip " + r, BAD, x.copy(r, 0, 0, 0, 1));
            checks.due("copy to strip " + r, BAD, x.copy(0, 0, r, 0, 1));
            checks.due("copy from and to strip " + r, BAD, x.copy(r, 0, r, 0, 0));
        }
        places("nothing changed", x, 0, 1, 2, 3);
    }

    @Says(in = "Promise 4", words = "NULL (of either);")
    void copyOfMissing() {
        LakeRelief x = sorts();
        for (int r = 0; r < 3; r++) {
            checks.due("copy from a missing one to " + r, NULL, x.copy(4, 0, r, 0, 0));
            checks.due("copy to a missing one from " + r, NULL, x.copy(r, 0, 7, 0, 0));
        }
        checks.due("copy of a missing one to another", NULL, x.copy(4, 0, 5, 0, 0));
        checks.due("copy of a missing one to itself", NULL, x.copy(4, 0, 4, 0, 0));
        places("nothing changed", x, 0, 1, 2, 3);
    }

    @Says(in = "Promise 4", words = "STORE;")
    void copyToAnotherSort() {
        LakeRelief x = sorts();
        checks.due("ints to bytes", STORE, x.copy(0, 0, 1, 0, 3));
        checks.due("bytes to shorts", STORE, x.copy(1, 0, 2, 0, 3));
        checks.due("shorts to ints, none", STORE, x.copy(2, 0, 0, 0, 0));
        checks.due("an empty one of ints to bytes, none", STORE, x.copy(3, 0, 1, 0, 0));
        places("nothing changed", x, 0, 1, 2, 3);
        places("nothing changed", x, 1, 0, 0, 0);
        places("nothing changed", x, 2, 0, 0, 0);
    }

    @Says(in = "Promise 4", words = "INDEX: one of n, i, j is below 0,")
    void copyBelowNone() {
        LakeRelief x = Reliefs.stripsOf(Reliefs.row(1, 2, 3), Reliefs.row(7, 8));
        for (int below : new int[] {-1, LEAST}) {
            checks.due("n " + below, INDEX, x.copy(0, 0, 1, 0, below));
            checks.due("n " + below + " from the ends", INDEX, x.copy(0, 3, 1, 2, below));
            checks.due("i " + below, INDEX, x.copy(0, below, 1, 0, 1));
            checks.due("j " + below, INDEX, x.copy(0, 0, 1, below, 1));
            checks.due("i " + below + ", nothing", INDEX, x.copy(0, below, 1, 0, 0));
            checks.due("j " + below + ", nothing", INDEX, x.copy(0, 0, 1, below, 0));
            checks.due("all " + below, INDEX, x.copy(0, below, 1, below, below));
        }
        places("nothing changed", x, 1, 7, 8);
    }

    @Says(in = "Promise 4", words = "or they go beyond a STRIP.")
    void copyBeyond() {
        LakeRelief x = Reliefs.stripsOf(Reliefs.row(1, 2, 3), Reliefs.row(7, 8), Reliefs.row());
        int[][] runs = {{2, 0, 2}, {3, 0, 1}, {0, 1, 2}, {0, 2, 1}, {0, 0, 3}, {0, 0, 4}, {4, 0, 0}, {0, 3, 0}};
        for (int[] run : runs) {
            checks.due("copy of " + run[2] + " from " + run[0] + " to " + run[1], INDEX,
                x.copy(0, run[0], 1, run[1], run[2]));
        }
        int[][] wrapping = {{1, 0, GREATEST}, {0, 1, GREATEST}, {GREATEST, 0, 1}, {0, GREATEST, 1},
            {GREATEST, 0, GREATEST}, {0, GREATEST, GREATEST}, {GREATEST, GREATEST, 2}};
        for (int[] run : wrapping) {
            checks.due("copy whose end wraps around", INDEX, x.copy(0, run[0], 1, run[1], run[2]));
        }
        checks.due("copy from an empty one", INDEX, x.copy(2, 0, 1, 0, 1));
        checks.due("copy to an empty one", INDEX, x.copy(0, 0, 2, 0, 1));
        places("nothing changed", x, 1, 7, 8);
    }

    // ---- promise 5

    @Says(in = "Promise 5", words = "Place i of a STRIP.")
    void toldOfPlaces() {
        LakeRelief x = Reliefs.stripsOf(Reliefs.row(0, -1, 1, LEAST, GREATEST, -11, -12));
        places("told", x, 0, 0, -1, 1, LEAST, GREATEST, -11, -12);
    }

    @Says(in = "Promise 5", words = {"10000000000 less the BAD, NULL, INDEX that it would be:",
        "10000000001, 10000000011, 10000000012."})
    void toldRefused() {
        LakeRelief x = sorts();
        for (int r : NO_STRIPS) {
            checks.due("told of strip " + r, 10000000001L, x.told(r, 0));
        }
        for (int i : new int[] {LEAST, -1, 0, 12, GREATEST}) {
            checks.due("told of a missing one at " + i, 10000000011L, x.told(4, i));
            checks.due("told of an empty one at " + i, 10000000012L, x.told(3, i));
        }
        for (int i : new int[] {LEAST, -1, 3, 12, GREATEST}) {
            checks.due("told at " + i, 10000000012L, x.told(0, i));
        }
    }
}
