/** Makes objects with a relief laid from rows of heights. */
final class Reliefs {
    private Reliefs() {
    }

    /** A relief of the width of the first row; a row that is null is a missing strip, a short one ends in SEA. */
    static LakeRelief laid(int[]... rows) {
        LakeRelief x = stripsOf(rows);
        x.lay(rows[0].length, rows.length);
        return x;
    }

    static LakeRelief stripsOf(int[]... rows) {
        LakeRelief x = new LakeRelief();
        for (int r = 0; r < rows.length; r++) {
            fillStrip(x, r, rows[r]);
        }
        return x;
    }

    static void fillStrip(LakeRelief x, int r, int[] row) {
        if (row == null) {
            return;
        }
        x.strip(r, 2, row.length);
        for (int i = 0; i < row.length; i++) {
            x.put(r, i, row[i]);
        }
    }

    static int[] row(int... heights) {
        return heights;
    }

    /** Four hollows around one rim: 17 (0), 7 (1), 11 (2), 13 (3) around 12 (5). */
    static LakeRelief star() {
        return laid(
            row(9, 9, 9, 9, 9),
            row(9, 9, 1, 9, 9),
            row(9, 2, 5, 3, 9),
            row(9, 9, 0, 9, 9),
            row(9, 9, 9, 9, 9));
    }

    /** Two hollows, 6 (1) and 8 (2); the second spills to SEA at 9 (4), ahead of the rim between them, 7 (6). */
    static LakeRelief stairs() {
        return laid(
            row(9, 9, 9, 9, 9),
            row(9, 1, 6, 2, 4),
            row(9, 9, 9, 9, 9));
    }

    /** Two hollows, 6 and 9, as high as the rim between them, 10: their lakes can hold nothing. */
    static LakeRelief flat() {
        return laid(
            row(7, 7, 7, 7),
            row(7, 7, 3, 7),
            row(7, 3, 3, 7),
            row(7, 7, 7, 7));
    }

    /** One lake of two fields, 5 (-3) and 6 (-1), below a rim of 5. */
    static LakeRelief trough() {
        return laid(
            row(5, 5, 5, 5),
            row(5, -3, -1, 5),
            row(5, 5, 5, 5));
    }

    /** Two hollows, 6 (1) and 8 (3), whose lakes join at 7 (5); their double spills at 1 (9). */
    static LakeRelief pools() {
        return laid(
            row(9, 9, 9, 9, 9),
            row(9, 1, 5, 3, 9),
            row(9, 9, 9, 9, 9));
    }

    /** Six by six fields inside, in turn the deepest and one below the highest: 18 hollows, as many as can be. */
    static LakeRelief chequered() {
        int[][] rows = new int[8][8];
        for (int r = 0; r < 8; r++) {
            for (int c = 0; c < 8; c++) {
                boolean isEdge = r == 0 || c == 0 || r == 7 || c == 7;
                rows[r][c] = isEdge ? 1000000 : (r + c) % 2 == 0 ? -1000000 : 999999;
            }
        }
        return laid(rows);
    }

    static LakeRelief sea(int w, int h) {
        LakeRelief x = new LakeRelief();
        x.lay(w, h);
        return x;
    }

    /** One field of the deepest, 4, in a rim of the highest. */
    static LakeRelief deep() {
        return laid(
            row(1000000, 1000000, 1000000),
            row(1000000, -1000000, 1000000),
            row(1000000, 1000000, 1000000));
    }
}
