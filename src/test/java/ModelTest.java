import java.util.Random;

/** Promises 1 to 17 once more: runs of calls, the same at each go, each answer against the model's. */
public final class ModelTest {
    private static final int RUNS = 400;
    /** Behind so many calls what an object answers is free. */
    private static final int CALLS = 512;
    private static final int CALLS_ON_EACH_RELIEF = 110;
    private static final int CALLS_TO_LAY = 8 + 64 + 1;
    /** How many one go of call() makes at most. */
    private static final int CALLS_AT_ONCE = 5;
    private static final int[] ODD = {Integer.MIN_VALUE, -1000001, -1000000, -5, -2, -1, 12, 13, 63, 64, 1000000,
        1000001, 1000002, Integer.MAX_VALUE};

    private final Checks checks = new Checks();
    private final Random random;
    private final int run;
    /** How far from 0 heights go: with few of them, many fields are alike. */
    private final int reach;
    private final LakeRelief real = new LakeRelief();
    private final Model model = new Model();
    private int width = 1;
    private int lines = 1;
    private int calls = 0;
    private int doublesSeen = 0;

    private ModelTest(int run) {
        this.run = run;
        random = new Random(run);
        int[] reaches = {1, 2, 4, 9, 40, 120, 2000, 1000000};
        reach = reaches[run % reaches.length];
    }

    public static void main(String[] args) {
        Checks all = new Checks();
        int doublesSeen = 0;
        for (int run = 0; run < RUNS; run++) {
            ModelTest test = new ModelTest(run);
            test.go();
            all.due("run " + run, 0, test.checks.wrongSoFar());
            doublesSeen += test.doublesSeen;
        }
        all.holds("doubles come often enough to be looked at: " + doublesSeen, doublesSeen > RUNS / 2);
        all.end();
    }

    private void go() {
        callUpTo(10);
        while (calls + CALLS_TO_LAY + CALLS_ON_EACH_RELIEF <= CALLS) {
            layAnew();
            callUpTo(calls + CALLS_ON_EACH_RELIEF);
            doublesSeen += model.doublesThere();
        }
        callUpTo(CALLS);
    }

    private void callUpTo(int bound) {
        while (calls + CALLS_AT_ONCE <= bound) {
            call();
        }
    }

    private void layAnew() {
        width = 3 + random.nextInt(6);
        lines = 3 + random.nextInt(6);
        boolean hasWall = random.nextInt(3) > 0;
        for (int r = 0; r < lines; r++) {
            if (random.nextInt(12) > 0) {
                stripAnew(r, hasWall);
            }
        }
        due("lay", model.lay(width, lines), real.lay(width, lines));
    }

    // A wall at the edge keeps lakes apart from the sea till they have joined.
    private void stripAnew(int r, boolean hasWall) {
        int n = random.nextInt(10) == 0 ? random.nextInt(13) : Math.max(width, random.nextInt(13));
        int kind = reach > 30000 || random.nextInt(3) == 0 ? 2 : reach > 127 ? 1 : random.nextInt(3);
        due("strip", model.strip(r, kind, n), real.strip(r, kind, n));
        for (int i = 0; i < Math.min(n, width); i++) {
            boolean isEdge = r == 0 || r == lines - 1 || i == 0 || i == width - 1;
            int v = hasWall && isEdge ? reach : random.nextInt(2 * reach + 1) - reach;
            model.put(r, i, v);
            due("put", 0, real.put(r, i, v));
        }
    }

    private void due(String call, long want, long got) {
        calls++;
        checks.due("run " + run + ", call " + calls + ": " + call, want, got);
    }

    private int mostly(int below) {
        return random.nextInt(25) == 0 ? ODD[random.nextInt(ODD.length)] : random.nextInt(Math.max(1, below));
    }

    private int someHeight() {
        return random.nextInt(25) == 0 ? ODD[random.nextInt(ODD.length)] : random.nextInt(2 * reach + 3) - reach - 1;
    }

    private int someLake() {
        return mostly((int) model.count(3));
    }

    private void call() {
        int kind = random.nextInt(28);
        int f = mostly(width * lines);
        int l = someLake();
        int level = someHeight();
        int what;
        if (kind < 7) {
            int n = random.nextInt(3) == 0 ? random.nextInt(40 * Math.min(reach, 2000)) : mostly(2 * Math.min(reach, 500));
            due("pour(" + f + ", " + n + ")", model.pour(f, n), real.pour(f, n));
        } else if (kind < 11) {
            what = mostly(6);
            due("field(" + f + ", " + what + ")", model.field(f, what), real.field(f, what));
        } else if (kind < 17) {
            what = mostly(10);
            due("lake(" + l + ", " + what + ")", model.lake(l, what), real.lake(l, what));
        } else if (kind < 19) {
            due("ground(" + l + ", " + f + ")", model.ground(l, f), real.ground(l, f));
        } else if (kind < 21) {
            what = mostly(2);
            due("level(" + l + ", " + what + ")", model.level(l, what), real.level(l, what));
        } else if (kind == 21) {
            due("holds(" + l + ", " + level + ")", model.holds(l, level), real.holds(l, level));
        } else if (kind == 22) {
            due("area(" + l + ", " + level + ")", model.area(l, level), real.area(l, level));
        } else if (kind == 23) {
            due("rise(" + level + ")", model.rise(level), real.rise(level));
        } else if (kind == 24) {
            due("islands(" + level + ")", model.islands(level), real.islands(level));
        } else if (kind == 25) {
            what = mostly(8);
            due("count(" + what + ")", model.count(what), real.count(what));
        } else if (kind == 26) {
            due("hollow", model.hollow(l), real.hollow(l));
        } else {
            callStrips();
        }
    }

    private void callStrips() {
        int r = mostly(8);
        int t = mostly(8);
        int i = mostly(6);
        int j = mostly(6);
        int n = mostly(8);
        int v = someHeight();
        String run = "copy(" + r + ", " + i + ", " + t + ", " + j + ", " + n + ")";
        due(run, model.copy(r, i, t, j, n), real.copy(r, i, t, j, n));
        due("put(" + r + ", " + i + ", " + v + ")", model.put(r, i, v), real.put(r, i, v));
        due("told(" + t + ", " + j + ")", model.told(t, j), real.told(t, j));
        if (random.nextInt(6) == 0) {
            int kind = random.nextInt(6) - 2;
            due("strip(" + r + ", " + kind + ", " + n + ")", model.strip(r, kind, n), real.strip(r, kind, n));
        }
        if (random.nextInt(6) == 0) {
            int w = mostly(10);
            int h = mostly(10);
            long want = model.lay(w, h);
            due("lay(" + w + ", " + h + ")", want, real.lay(w, h));
            width = want >= 0 ? w : width;
            lines = want >= 0 ? h : lines;
        }
    }
}
