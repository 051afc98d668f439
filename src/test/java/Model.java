import java.math.BigInteger;
import java.util.ArrayDeque;
import java.util.ArrayList;
import java.util.Collections;
import java.util.HashMap;
import java.util.HashSet;
import java.util.List;
import java.util.Map;
import java.util.Set;
import java.util.TreeSet;

/**
 * The document told once more, slowly and by other ways than the class goes: strips are Java's own arrays and their
 * exceptions, lakes are found as pieces of the ground below a field, fills by trying levels, and water runs grain by
 * grain.
 */
final class Model {
    private static final int BAD = -1, NO = -2, NONE = -3, SEA = -5;
    private static final int BAD2 = -2000001, NO2 = -2000002;

    private static final class Pool {
        final Set<Integer> ground = new TreeSet<>();
        final List<Pool> parts = new ArrayList<>();
        int number;
        int rim = NONE;
        Pool whole;
        boolean there;
        long water;
    }

    private final Object[] strips = new Object[8];
    private Integer[] heights;
    private int w;
    private int h;
    private List<Pool> pools;
    private long gone;
    private long poured;

    // ---- strips

    long strip(int r, int kind, int n) {
        if (r < 0 || r > 7 || kind < -1 || kind > 2 || (kind >= 0 && n > 12)) {
            return BAD;
        }
        try {
            strips[r] = kind == -1 ? null : kind == 0 ? new byte[n] : kind == 1 ? new short[n] : new int[n];
            return 0;
        } catch (NegativeArraySizeException e) {
            return -13;
        }
    }

    long put(int r, int i, int v) {
        if (r < 0 || r > 7) {
            return BAD;
        }
        try {
            if (strips[r] instanceof byte[] b) {
                b[i] = (byte) v;
            } else if (strips[r] instanceof short[] s) {
                s[i] = (short) v;
            } else {
                ((int[]) strips[r])[i] = v;
            }
            return 0;
        } catch (NullPointerException e) {
            return -11;
        } catch (ArrayIndexOutOfBoundsException e) {
            return -12;
        }
    }

    long copy(int r, int i, int t, int j, int n) {
        if (r < 0 || r > 7 || t < 0 || t > 7) {
            return BAD;
        }
        try {
            System.arraycopy(strips[r], i, strips[t], j, n);
            return 0;
        } catch (NullPointerException e) {
            return -11;
        } catch (ArrayStoreException e) {
            return -14;
        } catch (IndexOutOfBoundsException e) {
            return -12;
        }
    }

    long told(int r, int i) {
        if (r < 0 || r > 7) {
            return 10000000001L;
        }
        try {
            return java.lang.reflect.Array.getInt(strips[r], i);
        } catch (NullPointerException e) {
            return 10000000011L;
        } catch (ArrayIndexOutOfBoundsException e) {
            return 10000000012L;
        }
    }

    long lay(int width, int height) {
        if (width < 1 || width > 8 || height < 1 || height > 8) {
            return BAD;
        }
        Integer[] laid = new Integer[width * height];
        long land = 0;
        for (int f = 0; f < laid.length; f++) {
            long v = told(f / width, f % width);
            if (v < 10000000000L) {
                if (Math.abs(v) > 1000000) {
                    return BAD;
                }
                laid[f] = (int) v;
                land++;
            }
        }
        heights = laid;
        w = width;
        h = height;
        gone = 0;
        poured = 0;
        findPools();
        return land;
    }

    // ---- the dry relief

    /** The neighbours, with null for each that is SEA. */
    private List<Integer> around(int f) {
        List<Integer> found = new ArrayList<>();
        int[][] steps = {{-1, 0}, {1, 0}, {0, -1}, {0, 1}};
        for (int[] step : steps) {
            int r = f / w + step[0];
            int c = f % w + step[1];
            boolean isLand = r >= 0 && r < h && c >= 0 && c < w && heights[w * r + c] != null;
            found.add(isLand ? w * r + c : null);
        }
        return found;
    }

    private boolean lower(int f, int g) {
        return 100L * heights[f] + f < 100L * heights[g] + g;
    }

    private List<Integer> landLowestFirst() {
        List<Integer> land = new ArrayList<>();
        for (int f = 0; f < heights.length; f++) {
            if (heights[f] != null) {
                land.add(f);
            }
        }
        land.sort((f, g) -> lower(f, g) ? -1 : lower(g, f) ? 1 : 0);
        return land;
    }

    private int down(int f) {
        List<Integer> near = around(f);
        if (near.contains(null)) {
            return SEA;
        }
        near.sort((a, b) -> lower(a, b) ? -1 : lower(b, a) ? 1 : 0);
        return lower(f, near.get(0)) ? NONE : near.get(0);
    }

    private int end(int f) {
        int next = down(f);
        return next == SEA ? SEA : next == NONE ? f : end(next);
    }

    /** All that hangs together with a field within a set. */
    private Set<Integer> piece(int start, Set<Integer> within) {
        Set<Integer> found = new HashSet<>();
        ArrayDeque<Integer> open = new ArrayDeque<>();
        open.add(start);
        found.add(start);
        while (!open.isEmpty()) {
            for (Integer g : around(open.remove())) {
                if (g != null && within.contains(g) && found.add(g)) {
                    open.add(g);
                }
            }
        }
        return found;
    }

    private boolean touchesSea(Set<Integer> fields) {
        return fields.stream().anyMatch(f -> around(f).contains(null));
    }

    private int fill(int f) {
        TreeSet<Integer> levels = new TreeSet<>();
        for (int g : landLowestFirst()) {
            levels.add(heights[g]);
        }
        for (int level : levels.tailSet(heights[f])) {
            Set<Integer> low = new HashSet<>();
            for (int g : landLowestFirst()) {
                if (heights[g] <= level) {
                    low.add(g);
                }
            }
            if (touchesSea(piece(f, low))) {
                return level;
            }
        }
        throw new IllegalStateException("no way to SEA");
    }

    // ---- lakes

    private void findPools() {
        pools = new ArrayList<>();
        Map<Set<Integer>, Pool> onTop = new HashMap<>();
        Set<Integer> under = new HashSet<>();
        for (int f : landLowestFirst()) {
            Set<Set<Integer>> beside = new HashSet<>();
            for (Integer g : around(f)) {
                if (g != null && under.contains(g)) {
                    beside.add(piece(g, under));
                }
            }
            boolean isSeas = around(f).contains(null) || beside.stream().anyMatch(this::touchesSea);
            List<Pool> tops = new ArrayList<>();
            for (Set<Integer> ground : beside) {
                if (!touchesSea(ground)) {
                    tops.add(onTop.get(ground));
                }
            }
            tops.sort((a, b) -> a.number - b.number);
            for (Pool top : tops) {
                top.rim = f;
            }
            under.add(f);
            if (!isSeas) {
                Pool pool = tops.isEmpty() ? newPool() : joined(tops, f);
                pool.ground.add(f);
                onTop.put(piece(f, under), pool);
            }
        }
    }

    private Pool joined(List<Pool> tops, int f) {
        Pool last = tops.get(0);
        for (Pool next : tops.subList(1, tops.size())) {
            Pool both = newPool();
            both.there = false;
            both.parts.add(last.number < next.number ? last : next);
            both.parts.add(last.number < next.number ? next : last);
            for (Pool part : both.parts) {
                part.rim = f;
                part.whole = both;
                both.ground.addAll(part.ground);
            }
            last = both;
        }
        if (tops.size() == 1) {
            last.rim = NONE;
        }
        return last;
    }

    private Pool newPool() {
        Pool pool = new Pool();
        pool.number = pools.size();
        pool.there = true;
        pools.add(pool);
        return pool;
    }

    private long held(Pool pool, long level) {
        return pool.ground.stream().mapToLong(f -> Math.max(0, level - heights[f])).sum();
    }

    private long most(Pool pool) {
        return held(pool, heights[pool.rim]);
    }

    private Pool thereWith(int f) {
        return pools.stream().filter(p -> p.there && p.ground.contains(f)).findFirst().orElse(null);
    }

    private Pool poolOf(int l) {
        return l < 0 || l >= pools.size() ? null : pools.get(l);
    }

    long doublesThere() {
        return pools == null ? 0 : pools.stream().filter(p -> p.there && !p.parts.isEmpty()).count();
    }

    // ---- answers

    long field(int f, int what) {
        if (heights == null) {
            return NO2;
        }
        if (f < 0 || f >= heights.length || what < 0 || what > 5) {
            return BAD2;
        }
        if (heights[f] == null) {
            return new int[] {1, 0, 0, 0, 0, NONE}[what];
        }
        return switch (what) {
            case 0 -> 0;
            case 1 -> heights[f];
            case 2 -> down(f);
            case 3 -> end(f);
            case 4 -> fill(f);
            default -> thereWith(f) == null ? NONE : thereWith(f).number;
        };
    }

    private List<Integer> hollows() {
        List<Integer> found = new ArrayList<>();
        for (int f : landLowestFirst()) {
            if (around(f).stream().allMatch(g -> g != null && lower(f, g))) {
                found.add(f);
            }
        }
        Collections.sort(found);
        return found;
    }

    long hollow(int i) {
        if (heights == null) {
            return NO;
        }
        return i < 0 ? BAD : i < hollows().size() ? hollows().get(i) : NONE;
    }

    long lake(int l, int what) {
        if (heights == null) {
            return NO2;
        }
        Pool pool = poolOf(l);
        if (pool == null || what < 0 || what > 9) {
            return BAD2;
        }
        return switch (what) {
            case 0 -> pool.parts.isEmpty() ? 0 : 1;
            case 1 -> landLowestFirst().stream().filter(pool.ground::contains).findFirst().get();
            case 2 -> pool.rim;
            case 3 -> pool.whole == null ? SEA : pool.whole.number;
            case 4, 5 -> pool.parts.isEmpty() ? NONE : pool.parts.get(what - 4).number;
            case 6 -> pool.ground.size();
            case 7 -> most(pool);
            case 8 -> pool.there ? 1 : 0;
            default -> pool.there ? pool.water : 0;
        };
    }

    long ground(int l, int f) {
        if (heights == null) {
            return NO;
        }
        if (poolOf(l) == null || f < 0 || f >= heights.length) {
            return BAD;
        }
        return poolOf(l).ground.contains(f) ? 1 : 0;
    }

    long holds(int l, int level) {
        if (heights == null) {
            return NO;
        }
        Pool pool = poolOf(l);
        return pool == null || level < -1000000 || level > heights[pool.rim] ? BAD : held(pool, level);
    }

    long area(int l, int level) {
        long held = holds(l, level);
        return held < 0 ? held : poolOf(l).ground.stream().filter(f -> heights[f] < level).count();
    }

    long pour(int f, int n) {
        if (heights == null) {
            return NO;
        }
        if (f < 0 || f >= heights.length || n < 0 || n > 1000000) {
            return BAD;
        }
        int left = n;
        for (; left > 0 && isKept(f); left--) {
            continue;
        }
        poured += n;
        gone += left;
        return left;
    }

    /** Whether a grain stays in a lake: once one is gone, so are all that follow it. */
    private boolean isKept(int f) {
        int hollow = heights[f] == null ? SEA : end(f);
        if (hollow == SEA) {
            return false;
        }
        Pool pool = thereWith(hollow);
        while (pool.water == most(pool)) {
            if (pool.whole == null) {
                return false;
            }
            Pool other = pool.whole.parts.get(pool.whole.parts.get(0) == pool ? 1 : 0);
            if (other.there && other.water == most(other)) {
                pool.there = false;
                other.there = false;
                pool.whole.there = true;
                pool.whole.water = pool.water + other.water;
                pool = pool.whole;
            } else {
                List<Integer> near = around(pool.rim);
                near.removeIf(g -> g == null || !other.ground.contains(g));
                near.sort((a, b) -> lower(a, b) ? -1 : lower(b, a) ? 1 : 0);
                pool = thereWith(end(near.get(0)));
            }
        }
        pool.water++;
        return true;
    }

    long level(int l, int what) {
        if (heights == null) {
            return NO2;
        }
        Pool pool = poolOf(l);
        if (pool == null || !pool.there || what < 0 || what > 1) {
            return BAD2;
        }
        long above = pool.ground.stream().mapToLong(f -> heights[f]).min().getAsLong();
        long below = 1;
        // Of all that the water could stand on, the ones it does are those where the sum comes out.
        for (int k = 1; pool.water > 0 && k <= pool.ground.size(); k++) {
            long top = pool.water
                + pool.ground.stream().mapToLong(f -> heights[f]).sorted().limit(k).sum();
            int fields = k;
            long held = pool.ground.stream().mapToLong(f -> Math.max(0, top - (long) heights[f] * fields)).sum();
            if (held == pool.water * k) {
                above = top;
                below = k;
            }
        }
        long shared = BigInteger.valueOf(above).gcd(BigInteger.valueOf(below)).longValue();
        return (what == 0 ? above : below) / shared;
    }

    private Set<Integer> left(int level) {
        Set<Integer> left = new HashSet<>();
        for (int f : landLowestFirst()) {
            if (fill(f) >= level) {
                left.add(f);
            }
        }
        return left;
    }

    long rise(int level) {
        if (heights == null) {
            return NO;
        }
        return level < -1000000 || level > 1000001 ? BAD : landLowestFirst().size() - left(level).size();
    }

    long islands(int level) {
        if (heights == null) {
            return NO;
        }
        if (level < -1000000 || level > 1000001) {
            return BAD;
        }
        Set<Set<Integer>> pieces = new HashSet<>();
        Set<Integer> left = left(level);
        for (int f : left) {
            pieces.add(piece(f, left));
        }
        return pieces.size();
    }

    long count(int what) {
        if (heights == null) {
            return NO;
        }
        return switch (what) {
            case 0 -> heights.length;
            case 1 -> landLowestFirst().size();
            case 2 -> hollows().size();
            case 3 -> pools.size();
            case 4 -> pools.stream().filter(p -> p.there).count();
            case 5 -> pools.stream().filter(p -> p.there).mapToLong(p -> p.water).sum();
            case 6 -> gone;
            case 7 -> poured;
            default -> BAD;
        };
    }
}
