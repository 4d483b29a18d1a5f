/** Fields that several tests lay, and what an object tells, as texts. */
final class Fields {
    private Fields() {
    }

    /** A ring's corners, x and y by turns. */
    static void ring(FieldRows f, int ring, int... corners) {
        for (int k = 0; k + 1 < corners.length; k += 2) {
            f.corner(ring, corners[k], corners[k + 1]);
        }
    }

    static void box(FieldRows f, int ring, int left, int low, int right, int top) {
        ring(f, ring, left, low, right, low, right, top, left, top);
    }

    /** A box of a field from (0, 0) on, not laid. */
    static FieldRows newBox(int wide, int high) {
        FieldRows f = new FieldRows();
        box(f, 0, 0, 0, wide, high);
        return f;
    }

    /** The same, laid. */
    static FieldRows laidBox(int wide, int high, int head) {
        FieldRows f = newBox(wide, high);
        f.lay(head);
        return f;
    }

    /** A field of two squares alone: the way there and back between them holds nothing. */
    static FieldRows twoSquares(int x, int y, int toX, int toY) {
        FieldRows f = new FieldRows();
        ring(f, 0, x, y, x + 1, y, x + 1, y + 1, x, y + 1, x, y);
        ring(f, 0, toX, toY, toX + 1, toY, toX + 1, toY + 1, toX, toY + 1, toX, toY);
        f.lay(0);
        return f;
    }

    /** 6 x 5, of which 4 x 3 are INNER, in three rows along x. */
    static FieldRows threeRows() {
        FieldRows f = laidBox(6, 5, 1);
        f.rows(1, 0, 2);
        return f;
    }

    /** The triangle under x + y = 4 without headland, in three rows along y of 1, 2 and 3 squares. */
    static FieldRows bareTriangle() {
        FieldRows f = new FieldRows();
        ring(f, 0, 0, 0, 4, 0, 0, 4);
        f.lay(0);
        f.rows(0, 1, 2);
        return f;
    }

    /** Two fields of one row each, and no way between them. */
    static FieldRows apart() {
        FieldRows f = newBox(9, 3);
        box(f, 1, 4, 0, 5, 3);
        f.lay(1);
        return f;
    }

    static String planOf(FieldRows f) {
        StringBuilder all = new StringBuilder();
        for (int k = 0; f.plan(k) != FieldRows.NONE; k++) {
            all.append(k == 0 ? "" : " ").append(f.plan(k));
        }
        return all.toString();
    }

    static String wagonsOf(FieldRows f) {
        StringBuilder all = new StringBuilder();
        for (int k = 0; f.wagon(k) != FieldRows.NONE; k++) {
            all.append(k == 0 ? "" : " ").append(f.wagon(k));
        }
        return all.toString();
    }

    static String looksOf(FieldRows f) {
        StringBuilder all = new StringBuilder();
        for (int k = 0; k < 8; k++) {
            all.append(k == 0 ? "" : " ").append(f.look(k));
        }
        return all.toString();
    }

    static String countsOf(FieldRows f) {
        StringBuilder all = new StringBuilder();
        for (int k = 0; k < 8; k++) {
            all.append(k == 0 ? "" : " ").append(f.count(k));
        }
        return all.toString();
    }

    /** All that row() tells of a ROW. */
    static String rowOf(FieldRows f, int row) {
        StringBuilder all = new StringBuilder();
        for (int what = 0; what < 6; what++) {
            all.append(what == 0 ? "" : " ").append(f.row(row, what));
        }
        return all.toString();
    }

    /** The squares from (0, 0) on, y by y: '.' OUT, 'h' HEAD, 'i' INNER. */
    static String landOf(FieldRows f, int wide, int high) {
        StringBuilder all = new StringBuilder();
        for (int y = 0; y < high; y++) {
            all.append(y == 0 ? "" : " ");
            for (int x = 0; x < wide; x++) {
                all.append(".hi".charAt(f.square(x, y)));
            }
        }
        return all.toString();
    }

    /** The same with each square's ROW (up to 36 of them), '.' if it is of none. */
    static String rowsOf(FieldRows f, int wide, int high) {
        StringBuilder all = new StringBuilder();
        for (int y = 0; y < high; y++) {
            all.append(y == 0 ? "" : " ");
            for (int x = 0; x < wide; x++) {
                int row = f.rowOf(x, y);
                all.append(row == FieldRows.NONE ? '.' : Character.forDigit(row, 36));
            }
        }
        return all.toString();
    }
}
