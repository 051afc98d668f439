/** Lakes on a relief whose heights come from strips of numbers: see ../shared/DOC.md. */
public final class LakeRelief {
    public static final int BAD = -1, NO = -2, NONE = -3, SEA = -5;

    private static final int NULL = -11, INDEX = -12, SIZE = -13, STORE = -14;
    // Calls whose answers may be heights tell BAD and NO by numbers that no height is.
    private static final int BAD_BY_HEIGHTS = -2000001, NO_BY_HEIGHTS = -2000002;
    private static final long BEYOND_INTS = 10000000000L;

    private static final int MISSING = -1, BYTES = 0, SHORTS = 1, INTS = 2;
    private static final int STRIPS = 8, PLACES = 12, LONGEST_SIDE = 8, FIELDS = 64, SIDES = 4;
    // HOLLOWS are never on the edge and never side by side: 18 at most, and so 17 DOUBLES.
    private static final int LAKES = 35;
    private static final int HIGHEST = 1000000, DEEPEST = -1000000, MOST_GRAINS = 1000000;

    private final Strip[] strips;
    private final Relief relief;
    private final Lakes lakes;
    private boolean isLaid;

    public LakeRelief() {
        strips = new Strip[STRIPS];
        for (int r = 0; r < STRIPS; r++) {
            strips[r] = new Strip();
        }
        relief = new Relief();
        lakes = new Lakes(relief);
        isLaid = false;
    }

    // ---- strips

    public int strip(int r, int kind, int n) {
        if (!isStrip(r) || kind < MISSING || kind > INTS) {
            return BAD;
        }
        if (kind == MISSING) {
            strips[r].become(MISSING, 0);
            return 0;
        }
        if (n > PLACES) {
            return BAD;
        }
        if (n < 0) {
            return SIZE;
        }
        strips[r].become(kind, n);
        return 0;
    }

    public int put(int r, int i, int v) {
        int refused = refusalOfPlace(r, i);
        if (refused != 0) {
            return refused;
        }
        strips[r].keep(i, v);
        return 0;
    }

    public int copy(int r, int i, int t, int j, int n) {
        if (!isStrip(r) || !isStrip(t)) {
            return BAD;
        }
        Strip from = strips[r];
        Strip to = strips[t];
        if (from.kind == MISSING || to.kind == MISSING) {
            return NULL;
        }
        if (from.kind != to.kind) {
            return STORE;
        }
        if (!from.hasRun(i, n) || !to.hasRun(j, n)) {
            return INDEX;
        }
        System.arraycopy(from.places, i, to.places, j, n);
        return 0;
    }

    public long told(int r, int i) {
        int refused = refusalOfPlace(r, i);
        if (refused != 0) {
            return BEYOND_INTS - refused;
        }
        return strips[r].places[i];
    }

    public int lay(int w, int h) {
        if (w < 1 || w > LONGEST_SIDE || h < 1 || h > LONGEST_SIDE || !canBeLaid(w, h)) {
            return BAD;
        }
        relief.flood(w, h);
        for (int r = 0; r < h; r++) {
            layLine(r, w);
        }
        relief.survey();
        lakes.come();
        isLaid = true;
        return relief.landCount;
    }

    // ---- fields

    public int field(int f, int what) {
        if (!isLaid) {
            return NO_BY_HEIGHTS;
        }
        if (!relief.isField(f) || what < 0 || what > 5) {
            return BAD_BY_HEIGHTS;
        }
        if (!relief.isLand(f)) {
            return what == 0 ? 1 : what == 5 ? NONE : 0;
        }
        switch (what) {
            case 0: return 0;
            case 1: return relief.height[f];
            case 2: return relief.down[f];
            case 3: return relief.wayEnd[f];
            case 4: return relief.fill[f];
            default: return lakes.thereWith(f);
        }
    }

    public int hollow(int i) {
        if (!isLaid) {
            return NO;
        }
        if (i < 0) {
            return BAD;
        }
        return relief.hollowAt(i);
    }

    // ---- lakes

    public int lake(int l, int what) {
        if (!isLaid) {
            return NO_BY_HEIGHTS;
        }
        if (!lakes.isLake(l) || what < 0 || what > 9) {
            return BAD_BY_HEIGHTS;
        }
        Lake lake = lakes.all[l];
        switch (what) {
            case 0: return lake.isDouble() ? 1 : 0;
            case 1: return relief.lowestOf(lake.fields);
            case 2: return lake.rim;
            case 3: return lake.whole;
            case 4: return lake.lesserPart;
            case 5: return lake.greaterPart;
            case 6: return Long.bitCount(lake.fields);
            case 7: return lake.most;
            case 8: return lake.isThere ? 1 : 0;
            default: return lake.isThere ? lake.water : 0;
        }
    }

    public int ground(int l, int f) {
        if (!isLaid) {
            return NO;
        }
        if (!lakes.isLake(l) || !relief.isField(f)) {
            return BAD;
        }
        return isIn(lakes.all[l].fields, f) ? 1 : 0;
    }

    public int holds(int l, int level) {
        if (!isLaid) {
            return NO;
        }
        if (!lakes.isLevelOf(l, level)) {
            return BAD;
        }
        return relief.roomBelow(lakes.all[l].fields, level);
    }

    public int area(int l, int level) {
        if (!isLaid) {
            return NO;
        }
        if (!lakes.isLevelOf(l, level)) {
            return BAD;
        }
        return relief.countBelow(lakes.all[l].fields, level);
    }

    // ---- water

    public int pour(int f, int n) {
        if (!isLaid) {
            return NO;
        }
        if (!relief.isField(f) || n < 0 || n > MOST_GRAINS) {
            return BAD;
        }
        return lakes.takeGrains(f, n);
    }

    public int level(int l, int what) {
        if (!isLaid) {
            return NO_BY_HEIGHTS;
        }
        if (!lakes.isLake(l) || !lakes.all[l].isThere || what < 0 || what > 1) {
            return BAD_BY_HEIGHTS;
        }
        return relief.surface(lakes.all[l].fields, lakes.all[l].water, what == 0);
    }

    public int rise(int level) {
        if (!isLaid) {
            return NO;
        }
        if (!isSeaLevel(level)) {
            return BAD;
        }
        return relief.landCount - Long.bitCount(relief.landLeftAt(level));
    }

    public int islands(int level) {
        if (!isLaid) {
            return NO;
        }
        if (!isSeaLevel(level)) {
            return BAD;
        }
        return relief.piecesOf(relief.landLeftAt(level));
    }

    public long count(int what) {
        if (!isLaid) {
            return NO;
        }
        switch (what) {
            case 0: return relief.size;
            case 1: return relief.landCount;
            case 2: return relief.hollowCount();
            case 3: return lakes.number;
            case 4: return lakes.numberThere();
            case 5: return lakes.waterThere();
            case 6: return lakes.gone;
            case 7: return lakes.poured;
            default: return BAD;
        }
    }

    private static boolean isStrip(int r) {
        return r >= 0 && r < STRIPS;
    }

    private int refusalOfPlace(int r, int i) {
        if (!isStrip(r)) {
            return BAD;
        }
        if (strips[r].kind == MISSING) {
            return NULL;
        }
        return strips[r].hasPlace(i) ? 0 : INDEX;
    }

    // Asked ahead of laying, because a refusal must leave the relief that is laid as it is.
    private boolean canBeLaid(int w, int h) {
        for (int r = 0; r < h; r++) {
            for (int c = 0; c < w; c++) {
                if (strips[r].hasPlace(c) && !isHeight(strips[r].places[c])) {
                    return false;
                }
            }
        }
        return true;
    }

    private void layLine(int r, int w) {
        for (int c = 0; c < w; c++) {
            if (strips[r].hasPlace(c)) {
                relief.raiseLand(w * r + c, strips[r].places[c]);
            }
        }
    }

    private static boolean isHeight(int v) {
        return v >= DEEPEST && v <= HIGHEST;
    }

    private static boolean isSeaLevel(int v) {
        return v >= DEEPEST && v <= HIGHEST + 1;
    }

    // Sets of fields, and of lakes, are the bits of a long: neither has more than 64.
    private static boolean isIn(long set, int f) {
        return ((set >>> f) & 1L) != 0;
    }

    private static long only(int f) {
        return 1L << f;
    }

    /** A row of numbers of one sort, or none. */
    private static final class Strip {
        final int[] places;
        int kind;
        int length;

        Strip() {
            places = new int[PLACES];
            kind = MISSING;
            length = 0;
        }

        void become(int newKind, int newLength) {
            kind = newKind;
            length = newLength;
            for (int i = 0; i < PLACES; i++) {
                places[i] = 0;
            }
        }

        boolean hasPlace(int i) {
            return i >= 0 && i < length;
        }

        // Taken from the length, not added up, because the sum of two ints may wrap around.
        boolean hasRun(int start, int n) {
            return start >= 0 && n >= 0 && start <= length && n <= length - start;
        }

        void keep(int i, int v) {
            places[i] = kind == BYTES ? (byte) v : kind == SHORTS ? (short) v : v;
        }
    }

    /** The grid as it is laid, dry: heights, ways down, fills. */
    private static final class Relief {
        final int[] height;
        final int[] down;
        final int[] wayEnd;
        final int[] fill;
        /** The fields that are no SEA, the LOWEST first. */
        final int[] order;
        private final int[] neighbours;
        private final int[] waiting;
        private int width;
        int size;
        int landCount;
        private long land;

        Relief() {
            height = new int[FIELDS];
            down = new int[FIELDS];
            wayEnd = new int[FIELDS];
            fill = new int[FIELDS];
            order = new int[FIELDS];
            neighbours = new int[FIELDS * SIDES];
            waiting = new int[FIELDS];
            width = 1;
            size = 0;
            landCount = 0;
            land = 0;
        }

        void flood(int w, int h) {
            width = w;
            size = w * h;
            landCount = 0;
            land = 0;
            for (int f = 0; f < FIELDS; f++) {
                height[f] = 0;
                down[f] = SEA;
                wayEnd[f] = SEA;
                fill[f] = 0;
            }
        }

        void raiseLand(int f, int v) {
            height[f] = v;
            land |= only(f);
        }

        void survey() {
            findNeighbours();
            sortLand();
            findWays();
            findFills();
        }

        boolean isField(int f) {
            return f >= 0 && f < size;
        }

        boolean isLand(int f) {
            return isField(f) && isIn(land, f);
        }

        private boolean isLower(int f, int g) {
            return height[f] < height[g] || (height[f] == height[g] && f < g);
        }

        private void findNeighbours() {
            for (int f = 0; f < size; f++) {
                int column = width > 0 ? f % width : 0;
                int first = SIDES * f;
                neighbours[first] = landOrSea(f - width);
                neighbours[first + 1] = column > 0 ? landOrSea(f - 1) : SEA;
                neighbours[first + 2] = column < width - 1 ? landOrSea(f + 1) : SEA;
                neighbours[first + 3] = landOrSea(f + width);
            }
        }

        private int landOrSea(int f) {
            return isLand(f) ? f : SEA;
        }

        private void sortLand() {
            for (int f = 0; f < size; f++) {
                if (isLand(f)) {
                    insertByHeight(f, landCount);
                    landCount++;
                }
            }
        }

        private void insertByHeight(int f, int sorted) {
            int at = sorted;
            for (; at > 0 && isLower(f, order[at - 1]); at--) {
                order[at] = order[at - 1];
            }
            order[at] = f;
        }

        /** The NEIGHBOUR of a field at a side, 0 to 3: a field that is no SEA, or SEA. */
        int beside(int f, int side) {
            return isField(f) ? neighbours[SIDES * f + side] : SEA;
        }

        boolean isBesideSea(int f) {
            for (int side = 0; side < SIDES; side++) {
                if (beside(f, side) == SEA) {
                    return true;
                }
            }
            return false;
        }

        /** The LOWEST NEIGHBOUR of a field among a set of fields that are no SEA; NONE. */
        int lowestBeside(int f, long among) {
            int lowest = NONE;
            for (int side = 0; side < SIDES; side++) {
                int g = beside(f, side);
                if (g != SEA && isIn(among, g) && (lowest == NONE || isLower(g, lowest))) {
                    lowest = g;
                }
            }
            return lowest;
        }

        // The LOWEST first: then the way from DOWN is known when it is asked for.
        private void findWays() {
            for (int k = 0; k < landCount; k++) {
                int f = order[k];
                int d = downOf(f);
                down[f] = d;
                wayEnd[f] = d == NONE ? f : d == SEA ? SEA : wayEnd[d];
            }
        }

        private int downOf(int f) {
            if (isBesideSea(f)) {
                return SEA;
            }
            int lowest = lowestBeside(f, land);
            return lowest == NONE || isLower(f, lowest) ? NONE : lowest;
        }

        // Fills come down from above all heights till none can: a way has at most size fields.
        private void findFills() {
            for (int k = 0; k < landCount; k++) {
                fill[order[k]] = HIGHEST + 1;
            }
            boolean isMoving = true;
            for (int pass = 0; pass <= size && isMoving; pass++) {
                isMoving = lowerFills();
            }
        }

        private boolean lowerFills() {
            boolean hasMoved = false;
            for (int k = 0; k < landCount; k++) {
                int f = order[k];
                int better = Math.max(height[f], leastFillBeside(f));
                if (better < fill[f]) {
                    fill[f] = better;
                    hasMoved = true;
                }
            }
            return hasMoved;
        }

        private int leastFillBeside(int f) {
            int least = HIGHEST + 1;
            for (int side = 0; side < SIDES; side++) {
                int g = beside(f, side);
                least = Math.min(least, g == SEA ? DEEPEST : fill[g]);
            }
            return least;
        }

        private boolean isHollow(int f) {
            return isLand(f) && down[f] == NONE;
        }

        int hollowCount() {
            int found = 0;
            for (int f = 0; f < size; f++) {
                if (isHollow(f)) {
                    found++;
                }
            }
            return found;
        }

        int hollowAt(int i) {
            int ahead = 0;
            for (int f = 0; f < size; f++) {
                if (isHollow(f)) {
                    if (ahead == i) {
                        return f;
                    }
                    ahead++;
                }
            }
            return NONE;
        }

        int lowestOf(long set) {
            for (int k = 0; k < landCount; k++) {
                if (isIn(set, order[k])) {
                    return order[k];
                }
            }
            return NONE;
        }

        int roomBelow(long set, int top) {
            int room = 0;
            for (int f = 0; f < size; f++) {
                if (isIn(set, f) && height[f] < top) {
                    room += top - height[f];
                }
            }
            return room;
        }

        int countBelow(long set, int top) {
            int below = 0;
            for (int f = 0; f < size; f++) {
                if (isIn(set, f) && height[f] < top) {
                    below++;
                }
            }
            return below;
        }

        /** Up to which height water stands on a set of fields: one side of a fraction in lowest terms. */
        int surface(long set, int water, boolean isAbove) {
            int above = water;
            int below = 0;
            for (int k = 0; k < landCount; k++) {
                int f = order[k];
                if (isIn(set, f) && (below == 0 || above > (long) height[f] * below)) {
                    above += height[f];
                    below++;
                }
            }
            int shared = greatestDivisor(Math.abs(above), below);
            if (shared == 0) {
                return isAbove ? 0 : 1;
            }
            return (isAbove ? above : below) / shared;
        }

        // Euclid's way with ints is through in fewer than 64 steps.
        private static int greatestDivisor(int a, int b) {
            int greater = a;
            int lesser = b;
            for (int step = 0; step < 64 && lesser != 0; step++) {
                int rest = greater % lesser;
                greater = lesser;
                lesser = rest;
            }
            return greater;
        }

        long landLeftAt(int seaLevel) {
            long left = 0;
            for (int k = 0; k < landCount; k++) {
                int f = order[k];
                if (fill[f] >= seaLevel) {
                    left |= only(f);
                }
            }
            return left;
        }

        int piecesOf(long set) {
            long left = set;
            int pieces = 0;
            for (int f = 0; f < size; f++) {
                if (isIn(left, f)) {
                    left = withoutPieceAt(f, left);
                    pieces++;
                }
            }
            return pieces;
        }

        // Each field waits at most once, being taken from the set as it comes to wait.
        private long withoutPieceAt(int start, long set) {
            long left = set & ~only(start);
            waiting[0] = start;
            int last = 1;
            for (int next = 0; next < last && next < FIELDS; next++) {
                for (int side = 0; side < SIDES; side++) {
                    int g = beside(waiting[next], side);
                    if (g != SEA && isIn(left, g) && last < FIELDS) {
                        left &= ~only(g);
                        waiting[last] = g;
                        last++;
                    }
                }
            }
            return left;
        }
    }

    /** A lake of the tree, there or not. */
    private static final class Lake {
        /** The set of fields of its GROUND. */
        long fields;
        int rim;
        /** The DOUBLE of which it is a PART; SEA if it spills there; NONE till it has a rim. */
        int whole;
        int lesserPart;
        int greaterPart;
        int most;
        boolean isThere;
        int water;

        Lake() {
            begin(0, NONE, NONE);
        }

        void begin(long newFields, int onePart, int otherPart) {
            fields = newFields;
            rim = NONE;
            whole = NONE;
            lesserPart = Math.min(onePart, otherPart);
            greaterPart = Math.max(onePart, otherPart);
            most = 0;
            isThere = false;
            water = 0;
        }

        boolean isDouble() {
            return lesserPart != NONE;
        }

        boolean isFull() {
            return isThere && water == most;
        }

        void spillAt(int f, int into) {
            rim = f;
            whole = into;
        }

        void appear(int newWater) {
            isThere = true;
            water = newWater;
        }

        void vanish() {
            isThere = false;
            water = 0;
        }
    }

    /** The tree of lakes, and the water in them. */
    private static final class Lakes {
        final Lake[] all;
        int number;
        long gone;
        long poured;
        private final Relief relief;
        /** The fields that are under and SEA'S. */
        private long seas;

        Lakes(Relief dry) {
            relief = dry;
            all = new Lake[LAKES];
            for (int l = 0; l < LAKES; l++) {
                all[l] = new Lake();
            }
            number = 0;
            gone = 0;
            poured = 0;
            seas = 0;
        }

        boolean isLake(int l) {
            return l >= 0 && l < number;
        }

        boolean isLevelOf(int l, int level) {
            return isLake(l) && relief.isLand(all[l].rim)
                && level >= DEEPEST && level <= relief.height[all[l].rim];
        }

        void come() {
            number = 0;
            gone = 0;
            poured = 0;
            seas = 0;
            for (int k = 0; k < relief.landCount; k++) {
                goUnder(relief.order[k]);
            }
            for (int l = 0; l < number; l++) {
                measure(all[l]);
            }
        }

        private void measure(Lake lake) {
            if (relief.isLand(lake.rim)) {
                lake.most = relief.roomBelow(lake.fields, relief.height[lake.rim]);
            }
            if (!lake.isDouble()) {
                lake.appear(0);
            }
        }

        private void goUnder(int f) {
            long tops = topsBeside(f);
            if (isBesideSeas(f)) {
                spillToSea(tops, f);
                return;
            }
            int top = tops == 0 ? make(0, NONE, NONE) : joinAt(tops, f);
            if (isLake(top)) {
                all[top].fields |= only(f);
            }
        }

        private boolean isBesideSeas(int f) {
            return relief.isBesideSea(f) || relief.lowestBeside(f, seas) != NONE;
        }

        /** The set of lakes on top, with no rim as yet, whose ground is beside a field. */
        private long topsBeside(int f) {
            long tops = 0;
            for (int side = 0; side < SIDES; side++) {
                int top = topWith(relief.beside(f, side));
                if (top != NONE) {
                    tops |= only(top);
                }
            }
            return tops;
        }

        private int topWith(int f) {
            for (int l = 0; l < number; l++) {
                if (all[l].whole == NONE && f != SEA && isIn(all[l].fields, f)) {
                    return l;
                }
            }
            return NONE;
        }

        private void spillToSea(long tops, int f) {
            seas |= only(f);
            for (int l = 0; l < number; l++) {
                if (isIn(tops, l)) {
                    all[l].spillAt(f, SEA);
                    seas |= all[l].fields;
                }
            }
        }

        // Those that are made here have numbers above the bound, and are no new tops to join.
        private int joinAt(long tops, int f) {
            int top = NONE;
            int bound = number;
            for (int l = 0; l < bound; l++) {
                if (isIn(tops, l)) {
                    top = top == NONE ? l : makeDouble(top, l, f);
                }
            }
            return top;
        }

        private int makeDouble(int one, int other, int f) {
            if (!isLake(one) || !isLake(other)) {
                return NONE;
            }
            int made = make(all[one].fields | all[other].fields, one, other);
            all[one].spillAt(f, made);
            all[other].spillAt(f, made);
            return made;
        }

        private int make(long fields, int onePart, int otherPart) {
            if (number >= LAKES) {
                return NONE;
            }
            int made = number;
            all[made].begin(fields, onePart, otherPart);
            number++;
            return made;
        }

        /** The lake that is there and has a field in its ground; NONE. */
        int thereWith(int f) {
            for (int l = 0; l < number; l++) {
                if (all[l].isThere && isIn(all[l].fields, f)) {
                    return l;
                }
            }
            return NONE;
        }

        int numberThere() {
            int found = 0;
            for (int l = 0; l < number; l++) {
                if (all[l].isThere) {
                    found++;
                }
            }
            return found;
        }

        long waterThere() {
            long sum = 0;
            for (int l = 0; l < number; l++) {
                if (all[l].isThere) {
                    sum += all[l].water;
                }
            }
            return sum;
        }

        /** Pours grains at a field: how many went to SEA. */
        int takeGrains(int f, int n) {
            int toSea = runDown(lakeBelow(f), n);
            poured += n;
            gone += toSea;
            return toSea;
        }

        /** The lake that is there at the end of a field's way; SEA. */
        private int lakeBelow(int f) {
            if (!relief.isLand(f) || !relief.isLand(relief.wayEnd[f])) {
                return SEA;
            }
            return thereWith(relief.wayEnd[f]);
        }

        // Grains come to no lake twice, for they leave one full and a full one joins: so the bound.
        private int runDown(int first, int n) {
            int left = n;
            int l = first;
            for (int step = 0; step <= LAKES && left > 0 && isLake(l); step++) {
                left -= fillUp(all[l], left);
                if (left > 0) {
                    l = next(l);
                }
            }
            return left;
        }

        private int fillUp(Lake lake, int grains) {
            int taken = Math.min(grains, lake.most - lake.water);
            lake.water += taken;
            return taken;
        }

        /** Where grains go that a full lake can't hold: a lake, SEA. */
        private int next(int l) {
            int whole = all[l].whole;
            if (!isLake(whole)) {
                return SEA;
            }
            int other = all[whole].lesserPart == l ? all[whole].greaterPart : all[whole].lesserPart;
            if (!isLake(other)) {
                return SEA;
            }
            if (all[other].isFull()) {
                join(all[l], all[other], all[whole]);
                return whole;
            }
            return lakeBelow(relief.lowestBeside(all[l].rim, all[other].fields));
        }

        private void join(Lake one, Lake other, Lake whole) {
            whole.appear(one.water + other.water);
            one.vanish();
            other.vanish();
        }
    }
}
