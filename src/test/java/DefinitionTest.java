/**
 * Compares every answer with one found by the document's definitions alone:
 * all matchings of the graph are listed, and all sets of rows and columns tried as covers.
 */
public final class DefinitionTest {
    private static final int MOST_CALLS = 512;

    private static int wrong = 0;
    private static long seed = 20261115L;

    private final int[] columns = new int[7];
    private final int[] usable = new int[7];
    private final int[] forced = new int[7];
    private final int[] chosen = new int[7];
    private int largest;
    private int looseRows;
    private int looseColumns;

    private DmDecomposer x = new DmDecomposer();
    private int calls = 0;

    // A fixed sequence, so that every run tests the same graphs.
    private static int next(int bound) {
        seed = seed * 6364136223846793005L + 1442695040888963407L;
        return (int) ((seed >>> 33) % bound);
    }

    private void due(String what, int got, int want) {
        calls++;
        if (got != want) {
            wrong++;
            System.out.println(java.util.Arrays.toString(columns) + ": " + what + " answered " + got
                + ", due is " + want);
        }
    }

    private void lookAtAllMatchings() {
        largest = -1;
        extend(0, 0, 0);
    }

    private void extend(int r, int used, int size) {
        if (r == 7) {
            take(used, size);
            return;
        }
        chosen[r] = 0;
        extend(r + 1, used, size);
        for (int c = 0; c < 7; c++) {
            int bit = 1 << c;
            if ((columns[r] & bit) != 0 && (used & bit) == 0) {
                chosen[r] = bit;
                extend(r + 1, used | bit, size + 1);
            }
        }
    }

    private void take(int used, int size) {
        if (size < largest) {
            return;
        }
        if (size > largest) {
            largest = size;
            looseRows = 0;
            looseColumns = 0;
            java.util.Arrays.fill(usable, 0);
            java.util.Arrays.fill(forced, 127);
        }
        looseColumns |= 127 & ~used;
        for (int r = 0; r < 7; r++) {
            if (chosen[r] == 0) {
                looseRows |= 1 << r;
            }
            usable[r] |= chosen[r];
            forced[r] &= chosen[r];
        }
    }

    private boolean isUsable(int edge) {
        return (usable[edge / 7] >> edge % 7 & 1) != 0;
    }

    /** The number of each edge's block, from 1; 0 for an edge that is not usable. */
    private int[] blockOfEdges() {
        int[] block = new int[49];
        int count = 0;
        for (int start = 0; start < 49; start++) {
            if (isUsable(start) && block[start] == 0) {
                spread(block, start, ++count);
            }
        }
        return block;
    }

    private void spread(int[] block, int from, int number) {
        block[from] = number;
        for (int to = 0; to < 49; to++) {
            boolean touches = to / 7 == from / 7 || to % 7 == from % 7;
            if (touches && isUsable(to) && block[to] == 0) {
                spread(block, to, number);
            }
        }
    }

    private static int rowsOfBlock(int[] block, int row) {
        int number = 0;
        for (int c = 0; c < 7; c++) {
            number = Math.max(number, block[row * 7 + c]);
        }
        int rows = 0;
        for (int edge = 0; edge < 49; edge++) {
            if (number != 0 && block[edge] == number) {
                rows |= 1 << edge / 7;
            }
        }
        return rows;
    }

    private int leastCover() {
        int least = 14;
        for (int both = 0; both < 1 << 14; both++) {
            if (Integer.bitCount(both) < least && isCover(both >> 7, both & 127)) {
                least = Integer.bitCount(both);
            }
        }
        return least;
    }

    private boolean isCover(int rows, int cols) {
        for (int r = 0; r < 7; r++) {
            if ((rows >> r & 1) == 0 && (columns[r] & ~cols) != 0) {
                return false;
            }
        }
        return true;
    }

    private void compareAll() {
        lookAtAllMatchings();
        int[] block = blockOfEdges();
        int count = 0;
        for (int number : block) {
            count = Math.max(count, number);
        }
        due("blocks()", x.blocks(), count);
        due("largest()", x.largest(), largest);
        due("cover()", x.cover(), leastCover());
        due("looseRows()", x.looseRows(), looseRows);
        due("looseColumns()", x.looseColumns(), looseColumns);
        for (int r = 0; r < 7; r++) {
            due("forced(" + r + ")", x.forced(r), forced[r]);
            due("blockRows(" + r + ")", x.blockRows(r), rowsOfBlock(block, r));
            due("usable(" + r + ")", x.usable(r), usable[r]);
            due("columnsOf(" + r + ")", x.columnsOf(r), columns[r]);
        }
    }

    private void setRow(int r, int set) {
        columns[r] = set;
        due("row(" + r + ", " + set + ")", x.row(r, set) ? 1 : 0, 1);
    }

    private void setEdge(int r, int c, boolean there) {
        columns[r] = there ? columns[r] | 1 << c : columns[r] & ~(1 << c);
        due("edge(" + r + ", " + c + ", " + there + ")", x.edge(r, c, there) ? 1 : 0, 1);
    }

    /** A set in which each column is with a chance of dense in 12. */
    private static int someSet(int dense) {
        int set = 0;
        for (int c = 0; c < 7; c++) {
            if (next(12) < dense) {
                set |= 1 << c;
            }
        }
        return set;
    }

    private static void someGraph(int dense) {
        DefinitionTest test = new DefinitionTest();
        for (int r = 0; r < 7; r++) {
            test.setRow(r, someSet(dense));
        }
        test.compareAll();
    }

    /** One object through many changes, wrong calls among them, as long as an object is used. */
    private static void someLife() {
        DefinitionTest test = new DefinitionTest();
        while (test.calls + 50 <= MOST_CALLS) {
            for (int change = 0; change < 5; change++) {
                test.someChange();
            }
            test.compareAll();
        }
    }

    private void someChange() {
        int r = next(7);
        int c = next(7);
        switch (next(6)) {
            case 0 -> setRow(r, someSet(3));
            case 1 -> setEdge(r, c, false);
            case 2 -> due("row of a bad set", x.row(r, 128 + next(1000)) ? 1 : 0, 0);
            case 3 -> due("edge of a bad column", x.edge(r, 7 + next(100), next(2) == 0) ? 1 : 0, 0);
            default -> setEdge(r, c, true);
        }
    }

    /** Every graph of three rows and three columns, put at both ends of the numbers. */
    private static void allSmallGraphs() {
        for (int edges = 0; edges < 512; edges++) {
            DefinitionTest low = new DefinitionTest();
            DefinitionTest high = new DefinitionTest();
            for (int r = 0; r < 3; r++) {
                low.setRow(r, edges >> 3 * r & 7);
                high.setRow(4 + r, (edges >> 3 * r & 7) << 4);
            }
            low.compareAll();
            high.compareAll();
        }
    }

    public static void main(String[] args) {
        allSmallGraphs();
        for (int graph = 0; graph < 2400; graph++) {
            someGraph(1 + graph % 8);
        }
        for (int life = 0; life < 60; life++) {
            someLife();
        }
        System.out.println(wrong == 0 ? "all answers are as due" : wrong + " answers are not as due");
        if (wrong != 0) {
            System.exit(1);
        }
    }
}
