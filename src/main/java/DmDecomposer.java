public final class DmDecomposer {
    public static final int BAD = -1;

    private static final int SIZE = 7;
    private static final int SETS = 128;
    private static final int ALL = 127;

    // Bit c of columnsByRow[r] tells whether the edge (r, c) is there.
    private final int[] columnsByRow = new int[SIZE];
    // Work space of matchingSize: the most edges of a matching within each set of columns.
    private final int[] mostWithin = new int[SETS];
    // Work space of blocks and blockRows, filled anew by each of their calls.
    private final int[] usableByRow = new int[SIZE];

    public DmDecomposer() {
    }

    public boolean edge(int r, int c, boolean there) {
        if (isOutside(r) || isOutside(c)) {
            return false;
        }
        if (there) {
            columnsByRow[r] |= 1 << c;
        } else {
            columnsByRow[r] &= ~(1 << c);
        }
        return true;
    }

    public boolean row(int r, int set) {
        if (isOutside(r) || set < 0 || set > ALL) {
            return false;
        }
        columnsByRow[r] = set;
        return true;
    }

    public int columnsOf(int r) {
        return isOutside(r) ? BAD : columnsByRow[r];
    }

    public int largest() {
        return matchingSize(ALL, ALL);
    }

    public int looseRows() {
        int size = matchingSize(ALL, ALL);
        int loose = 0;
        for (int r = 0; r < SIZE; r++) {
            if (matchingSize(ALL ^ (1 << r), ALL) == size) {
                loose |= 1 << r;
            }
        }
        return loose;
    }

    public int looseColumns() {
        int size = matchingSize(ALL, ALL);
        int loose = 0;
        for (int c = 0; c < SIZE; c++) {
            if (matchingSize(ALL, ALL ^ (1 << c)) == size) {
                loose |= 1 << c;
            }
        }
        return loose;
    }

    public int usable(int r) {
        return isOutside(r) ? BAD : usableColumns(r);
    }

    public int forced(int r) {
        if (isOutside(r)) {
            return BAD;
        }
        if (matchingSize(ALL ^ (1 << r), ALL) == matchingSize(ALL, ALL)) {
            return 0;
        }
        // Every largest matching covers the row, so its edge is forced iff there is no other choice.
        int choices = usableColumns(r);
        return countOf(choices) == 1 ? choices : 0;
    }

    public int blocks() {
        findUsable();
        int count = 0;
        int seen = 0;
        for (int r = 0; r < SIZE; r++) {
            if (usableByRow[r] != 0 && !has(seen, r)) {
                count++;
                seen |= rowsJoinedTo(r);
            }
        }
        return count;
    }

    public int blockRows(int r) {
        if (isOutside(r)) {
            return BAD;
        }
        findUsable();
        return rowsJoinedTo(r);
    }

    public int cover() {
        int least = SIZE;
        for (int rows = 0; rows < SETS; rows++) {
            // Once the rows are chosen, just the columns of the other rows' edges are needed.
            int columns = columnsOutside(rows);
            int size = countOf(rows) + countOf(columns);
            if (size < least) {
                least = size;
            }
        }
        return least;
    }

    private static boolean isOutside(int number) {
        return number < 0 || number >= SIZE;
    }

    private static boolean has(int set, int member) {
        return (set >> member & 1) != 0;
    }

    private static int countOf(int set) {
        int count = 0;
        for (int member = 0; member < SIZE; member++) {
            count += set >> member & 1;
        }
        return count;
    }

    private int columnsOutside(int rows) {
        int columns = 0;
        for (int r = 0; r < SIZE; r++) {
            if (!has(rows, r)) {
                columns |= columnsByRow[r];
            }
        }
        return columns;
    }

    /** The number of edges of a largest matching when only these rows and columns may be covered. */
    private int matchingSize(int rows, int columns) {
        for (int set = 0; set < SETS; set++) {
            mostWithin[set] = 0;
        }
        for (int r = 0; r < SIZE; r++) {
            if (has(rows, r)) {
                allowRow(r);
            }
        }
        return mostWithin[columns];
    }

    private void allowRow(int r) {
        // Downwards, because the smaller sets must still speak of the rows before this one.
        for (int set = ALL; set > 0; set--) {
            int choices = columnsByRow[r] & set;
            for (int c = 0; c < SIZE; c++) {
                if (has(choices, c) && mostWithin[set ^ (1 << c)] >= mostWithin[set]) {
                    mostWithin[set] = mostWithin[set ^ (1 << c)] + 1;
                }
            }
        }
    }

    private int usableColumns(int r) {
        int size = matchingSize(ALL, ALL);
        int columns = 0;
        for (int c = 0; c < SIZE; c++) {
            // The edge is in a largest matching iff the rest, without its row and column, lacks just one.
            if (has(columnsByRow[r], c) && matchingSize(ALL ^ (1 << r), ALL ^ (1 << c)) == size - 1) {
                columns |= 1 << c;
            }
        }
        return columns;
    }

    private void findUsable() {
        for (int r = 0; r < SIZE; r++) {
            usableByRow[r] = usableColumns(r);
        }
    }

    /** The rows of row r's block, from the usable edges that findUsable has found. */
    private int rowsJoinedTo(int r) {
        int rows = 0;
        int columns = usableByRow[r];
        // A pass that changes something brings in a row, so as many passes as rows are enough.
        for (int pass = 0; pass < SIZE; pass++) {
            for (int other = 0; other < SIZE; other++) {
                if ((usableByRow[other] & columns) != 0) {
                    rows |= 1 << other;
                    columns |= usableByRow[other];
                }
            }
        }
        return rows;
    }
}
