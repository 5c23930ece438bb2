import java.util.Arrays;

/**
 * At least one test for each sentence of the document that names a boundary case, named after the sentence.
 * No object here is used for more than the document's 512 calls.
 */
public final class BoundaryTest {
    private static final int MOST_CALLS = 512;
    private static final int ALL = 127;

    private static final int[] EMPTY = {0, 0, 0, 0, 0, 0, 0};
    private static final int[] FULL = {127, 127, 127, 127, 127, 127, 127};
    private static final int[] TRIANGLE = {1, 3, 7, 15, 31, 63, 127};
    private static final int[] RING = {3, 6, 12, 24, 48, 96, 65};
    // Loose and not loose, usable and not, forced and not, blocks of one row and of two: something of each.
    private static final int[] MIXED = {3, 3, 4, 12, 48, 32, 32};

    private static int wrong = 0;
    private static int tests = 0;

    /** What an object answers to every question that is not refused. */
    private static final class Answers {
        int largest;
        int looseRows;
        int looseColumns;
        int blocks;
        int cover;
        int[] columns = new int[7];
        int[] usable = new int[7];
        int[] forced = new int[7];
        int[] blockRows = new int[7];

        static final int CALLS = 33;

        static Answers of(DmDecomposer x) {
            Answers a = new Answers();
            a.numbers(x.largest(), x.looseRows(), x.looseColumns(), x.blocks(), x.cover());
            for (int r = 0; r < 7; r++) {
                a.columns[r] = x.columnsOf(r);
                a.usable[r] = x.usable(r);
                a.forced[r] = x.forced(r);
                a.blockRows[r] = x.blockRows(r);
            }
            return a;
        }

        Answers numbers(int largest, int looseRows, int looseColumns, int blocks, int cover) {
            this.largest = largest;
            this.looseRows = looseRows;
            this.looseColumns = looseColumns;
            this.blocks = blocks;
            this.cover = cover;
            return this;
        }

        Answers columns(int... sets) {
            columns = sets;
            return this;
        }

        Answers usable(int... sets) {
            usable = sets;
            return this;
        }

        Answers forced(int... sets) {
            forced = sets;
            return this;
        }

        Answers blockRows(int... sets) {
            blockRows = sets;
            return this;
        }

        @Override
        public String toString() {
            return "largest " + largest + ", looseRows " + looseRows + ", looseColumns " + looseColumns
                + ", blocks " + blocks + ", cover " + cover + ", columnsOf " + Arrays.toString(columns)
                + ", usable " + Arrays.toString(usable) + ", forced " + Arrays.toString(forced)
                + ", blockRows " + Arrays.toString(blockRows);
        }
    }

    private static Answers dueOfEmpty() {
        return new Answers().numbers(0, ALL, ALL, 0, 0);
    }

    private static Answers dueOfFull() {
        return new Answers().numbers(7, 0, 0, 1, 7).columns(FULL).usable(FULL).blockRows(FULL);
    }

    private static Answers dueOfMixed() {
        return new Answers().numbers(6, 96, 64, 5, 6).columns(MIXED)
            .usable(3, 3, 4, 8, 16, 32, 32).forced(0, 0, 4, 8, 16, 0, 0).blockRows(3, 3, 4, 8, 16, 96, 96);
    }

    // ---- helpers

    private static void test(String sentence, Runnable body) {
        int before = wrong;
        try {
            body.run();
        } catch (RuntimeException thrown) {
            wrong++;
            System.out.println("a call threw " + thrown);
        }
        tests++;
        if (wrong != before) {
            System.out.println("does not hold: " + sentence);
        }
    }

    private static void due(String what, Object got, Object want) {
        if (!got.toString().equals(want.toString())) {
            wrong++;
            System.out.println(what + " answered " + got + ", due is " + want);
        }
    }

    private static DmDecomposer graph(int... rows) {
        DmDecomposer x = new DmDecomposer();
        for (int r = 0; r < rows.length; r++) {
            x.row(r, rows[r]);
        }
        return x;
    }

    private static void dueColumns(String what, DmDecomposer x, int... rows) {
        for (int r = 0; r < 7; r++) {
            due(what + ": columnsOf(" + r + ")", x.columnsOf(r), rows[r]);
        }
    }

    private static boolean isInside(int number) {
        return 0 <= number && number <= 6;
    }

    /** The rows 0 to count - 1, each with an edge to the column of its own number. */
    private static int[] diagonal(int count) {
        int[] rows = new int[7];
        for (int r = 0; r < count; r++) {
            rows[r] = 1 << r;
        }
        return rows;
    }

    /** Next to the range, far from it, and what a wrapping shift, remainder or narrowing cast would bring into it. */
    private static int[] outside() {
        int[] list = new int[400];
        int count = 0;
        for (int k = 1; k <= 70; k++) {
            list[count++] = -k;
            list[count++] = 6 + k;
        }
        for (int k = 0; k < 8; k++) {
            list[count++] = Integer.MIN_VALUE + k;
            list[count++] = Integer.MAX_VALUE - k;
            list[count++] = 128 + k;
            list[count++] = 256 + k;
            list[count++] = 65536 + k;
            list[count++] = (1 << 30) + k;
        }
        return Arrays.copyOf(list, count);
    }

    // ---- What it is

    private static void call(DmDecomposer x, int kind, int number) {
        switch (kind) {
            case 0 -> x.edge(number % 7, number / 7 % 7, number % 2 == 0);
            case 1 -> x.row(number % 7, number % 128);
            case 2 -> x.row(7, number);
            case 3 -> x.edge(number % 7, -1, true);
            case 4 -> x.blockRows(number % 8);
            case 5 -> x.looseRows();
            default -> call(x, number % 6, number);
        }
    }

    private static Object question(DmDecomposer x, int which) {
        return switch (which) {
            case 0 -> x.columnsOf(3);
            case 1 -> x.largest();
            case 2 -> x.looseRows();
            case 3 -> x.looseColumns();
            case 4 -> x.usable(3);
            case 5 -> x.forced(3);
            case 6 -> x.blocks();
            case 7 -> x.blockRows(6);
            case 8 -> x.cover();
            case 9 -> x.edge(6, 6, true);
            case 10 -> x.row(6, 127);
            case 11 -> x.edge(6, 7, true);
            case 12 -> x.row(6, 128);
            default -> x.usable(7);
        };
    }

    private static void theLastCall() {
        Object[] want = {12, 6, 96, 64, 8, 8, 5, 96, 6, true, true, false, false, -1};
        for (int kind = 0; kind < 7; kind++) {
            for (int which = 0; which < want.length; which++) {
                DmDecomposer x = new DmDecomposer();
                for (int number = 0; number < MOST_CALLS - 8; number++) {
                    call(x, kind, number);
                }
                for (int r = 0; r < 7; r++) {
                    due("call " + (MOST_CALLS - 7 + r), x.row(r, MIXED[r]), true);
                }
                due("call 512, after calls of kind " + kind + ", question " + which, question(x, which), want[which]);
            }
        }
    }

    private static void theLastAnswersTogether() {
        DmDecomposer x = new DmDecomposer();
        for (int number = 0; number < MOST_CALLS - 7 - Answers.CALLS; number++) {
            call(x, 6, number);
        }
        for (int r = 0; r < 7; r++) {
            x.row(r, MIXED[r]);
        }
        due("the calls 480 to 512", Answers.of(x), dueOfMixed());
    }

    // ---- Terms

    private static void eachEdgeAlone() {
        for (int r = 0; r < 7; r++) {
            for (int c = 0; c < 7; c++) {
                DmDecomposer x = new DmDecomposer();
                x.edge(r, c, true);
                Answers want = new Answers().numbers(1, ALL ^ 1 << r, ALL ^ 1 << c, 1, 1);
                want.columns[r] = 1 << c;
                want.usable[r] = 1 << c;
                want.forced[r] = 1 << c;
                want.blockRows[r] = 1 << r;
                due("the edge (" + r + ", " + c + ") alone", Answers.of(x), want);
            }
        }
    }

    private static void eachRowAloneFull() {
        for (int r = 0; r < 7; r++) {
            DmDecomposer x = new DmDecomposer();
            x.row(r, ALL);
            Answers want = new Answers().numbers(1, ALL ^ 1 << r, ALL, 1, 1);
            want.columns[r] = ALL;
            want.usable[r] = ALL;
            want.blockRows[r] = 1 << r;
            due("full row " + r, Answers.of(x), want);
        }
    }

    private static void eachColumnAloneFull() {
        for (int c = 0; c < 7; c++) {
            int set = 1 << c;
            Answers want = new Answers().numbers(1, ALL, ALL ^ set, 1, 1).blockRows(FULL)
                .columns(set, set, set, set, set, set, set).usable(set, set, set, set, set, set, set);
            due("full column " + c, Answers.of(graph(want.columns)), want);
        }
    }

    private static void largestIsNotJustFull() {
        // The edge (0, 0) alone cannot be added to, and yet there is a matching of more edges.
        due("3, 1", Answers.of(graph(3, 1)), new Answers().numbers(2, 124, 124, 2, 2)
            .columns(3, 1, 0, 0, 0, 0, 0).usable(2, 1, 0, 0, 0, 0, 0).forced(2, 1, 0, 0, 0, 0, 0)
            .blockRows(1, 2, 0, 0, 0, 0, 0));
        // The edges (1, 0), (2, 1) .. (6, 5), six of them, leave row 0 and column 6 with no edge between them.
        due("staircase", graph(1, 3, 6, 12, 24, 48, 96).largest(), 7);
    }

    private static void usableInSomeLargest() {
        DmDecomposer ring = graph(RING);
        DmDecomposer triangle = graph(TRIANGLE);
        DmDecomposer full = graph(FULL);
        for (int r = 0; r < 7; r++) {
            due("in one of two: usable(" + r + ")", ring.usable(r), RING[r]);
            due("in a matching of one less: usable(" + r + ")", triangle.usable(r), 1 << r);
            due("all: usable(" + r + ")", full.usable(r), ALL);
        }
    }

    private static void forcedInEveryLargest() {
        DmDecomposer ring = graph(RING);
        DmDecomposer triangle = graph(TRIANGLE);
        for (int r = 0; r < 7; r++) {
            due("in one of two: forced(" + r + ")", ring.forced(r), 0);
            due("in the only one: forced(" + r + ")", triangle.forced(r), 1 << r);
        }
        // Opening one edge of the ring leaves one largest matching alone.
        ring.edge(6, 0, false);
        due("the last edge: forced(6)", ring.forced(6), 64);
        due("the first edge: forced(0)", ring.forced(0), 1);
        // Of the rows 0 and 1 each is left out by one largest matching.
        due("no choice, but left out: forced(0)", graph(64, 64).forced(0), 0);
        due("no choice, but left out: forced(1)", graph(64, 64).forced(1), 0);
        due("in every one by the column, not by the row: forced(2)", graph(1, 1, 3).forced(2), 2);
    }

    private static void looseIffLeftOut() {
        // Seven rows for six columns in a path: each row, the first and the last too, is left out by just one.
        DmDecomposer rows = graph(1, 3, 6, 12, 24, 48, 32);
        due("path: looseRows", rows.looseRows(), ALL);
        due("path: looseColumns", rows.looseColumns(), 64);
        DmDecomposer columns = graph(3, 6, 12, 24, 48, 96);
        due("path: looseColumns", columns.looseColumns(), ALL);
        due("path: looseRows", columns.looseRows(), 64);
        columns.edge(6, 6, true);
        due("closed path: looseColumns", columns.looseColumns(), 0);
        due("closed path: looseRows", columns.looseRows(), 0);
    }

    private static void touchBySameRowOrColumn() {
        due("same row", graph(65).blocks(), 1);
        due("same column", graph(64, 0, 0, 0, 0, 0, 64).blocks(), 1);
        due("neighbours by a corner", graph(1, 2).blocks(), 2);
        due("the end of a row and the start of the next", graph(64, 1).blocks(), 2);
        due("the row of one has the number of the other's column", graph(2, 4).blocks(), 2);
        due("the corners", graph(1, 0, 0, 0, 0, 0, 64).blocks(), 2);
    }

    private static void blockIsLargestSetOfUsable() {
        due("a block of one edge: blockRows(6)", graph(1, 0, 0, 0, 0, 0, 64).blockRows(6), 64);
        DmDecomposer triangle = graph(TRIANGLE);
        due("edges that are not usable do not join: blocks", triangle.blocks(), 7);
        for (int r = 0; r < 7; r++) {
            due("not usable: blockRows(" + r + ")", triangle.blockRows(r), 1 << r);
        }
        DmDecomposer both = graph(3, 3, 7, 120, 120, 120, 120);
        due("blocks of two rows, of one and of four: blocks", both.blocks(), 3);
        due("of two: blockRows(1)", both.blockRows(1), 3);
        due("of one: blockRows(2)", both.blockRows(2), 4);
        due("of four: blockRows(3)", both.blockRows(3), 120);
    }

    /** Seven rows on six columns in a path: the longest way that there can be from an edge to another. */
    private static void blockByTheLongestWay() {
        int[][] paths = {
            {1, 3, 6, 12, 24, 48, 32},
            {32, 48, 24, 12, 6, 3, 1},
            {1, 12, 24, 48, 6, 32, 3},
        };
        for (int[] rows : paths) {
            DmDecomposer x = graph(rows);
            due("path: blocks", x.blocks(), 1);
            for (int r = 0; r < 7; r++) {
                due("path: blockRows(" + r + ")", x.blockRows(r), ALL);
            }
        }
    }

    // ---- Promise 1

    private static void newObject() {
        due("new", Answers.of(new DmDecomposer()), dueOfEmpty());
        DmDecomposer first = graph(FULL);
        DmDecomposer second = new DmDecomposer();
        due("new, beside a full one", Answers.of(second), dueOfEmpty());
        second.row(0, 1);
        due("full, beside a new one", Answers.of(first), dueOfFull());
    }

    // ---- Promise 2

    private static void edgeThereOrNot() {
        for (int r = 0; r < 7; r++) {
            for (int c = 0; c < 7; c++) {
                int[] one = EMPTY.clone();
                int[] allButOne = FULL.clone();
                one[r] = 1 << c;
                allButOne[r] = ALL ^ 1 << c;
                DmDecomposer x = graph(EMPTY);
                x.edge(r, c, false);
                dueColumns("not there, made not there", x, EMPTY);
                x.edge(r, c, true);
                dueColumns("not there, made there", x, one);
                x.edge(r, c, true);
                dueColumns("there, made there", x, one);
                x.edge(r, c, false);
                dueColumns("the only one, made not there", x, EMPTY);
                x = graph(FULL);
                x.edge(r, c, true);
                dueColumns("full, made there", x, FULL);
                x.edge(r, c, false);
                dueColumns("full, made not there", x, allButOne);
                x.edge(r, c, true);
                dueColumns("the last one, made there", x, FULL);
            }
        }
    }

    private static void edgeFillsAndEmpties() {
        DmDecomposer x = new DmDecomposer();
        for (int e = 0; e < 49; e++) {
            x.edge(e % 7, e / 7, true);
        }
        due("filled edge by edge", Answers.of(x), dueOfFull());
        for (int e = 0; e < 49; e++) {
            x.edge(e / 7, e % 7, false);
        }
        due("emptied edge by edge", Answers.of(x), dueOfEmpty());
    }

    private static void edgeRefused(int[] rows, int r, int c, boolean there) {
        DmDecomposer x = graph(rows);
        String what = "edge(" + r + ", " + c + ", " + there + ")";
        due(what, x.edge(r, c, there), false);
        dueColumns("after " + what, x, rows);
    }

    private static void edgeRefused() {
        for (int bad : outside()) {
            for (int good = 0; good < 7; good++) {
                edgeRefused(EMPTY, bad, good, true);
                edgeRefused(EMPTY, good, bad, true);
                edgeRefused(FULL, bad, good, false);
                edgeRefused(FULL, good, bad, false);
            }
        }
    }

    private static void edgeRefusedForBoth() {
        // Pairs such as (-1, 7) and (7, -7), whose place in one long list of edges would lie inside it.
        for (int r = -10; r < 60; r++) {
            for (int c = -60; c < 60; c++) {
                if (!isInside(r) && !isInside(c)) {
                    edgeRefused(EMPTY, r, c, true);
                    edgeRefused(FULL, r, c, false);
                }
            }
        }
        edgeRefused(EMPTY, Integer.MIN_VALUE, Integer.MIN_VALUE, true);
        edgeRefused(EMPTY, Integer.MAX_VALUE, Integer.MIN_VALUE, true);
        edgeRefused(FULL, Integer.MIN_VALUE, Integer.MAX_VALUE, false);
        edgeRefused(FULL, Integer.MAX_VALUE, Integer.MAX_VALUE, false);
    }

    private static void edgeElseTrue() {
        for (int[] rows : new int[][] {EMPTY, FULL, MIXED}) {
            for (int e = 0; e < 49; e++) {
                DmDecomposer x = graph(rows);
                for (int twice = 0; twice < 2; twice++) {
                    due("edge(" + e / 7 + ", " + e % 7 + ", true)", x.edge(e / 7, e % 7, true), true);
                }
                for (int twice = 0; twice < 2; twice++) {
                    due("edge(" + e / 7 + ", " + e % 7 + ", false)", x.edge(e / 7, e % 7, false), true);
                }
            }
        }
    }

    // ---- Promise 3

    private static void rowExactly() {
        for (int r = 0; r < 7; r++) {
            for (int set = 0; set < 128; set++) {
                for (int[] before : new int[][] {EMPTY, FULL, MIXED}) {
                    DmDecomposer x = graph(before);
                    int[] after = before.clone();
                    after[r] = set;
                    x.row(r, set);
                    dueColumns("row(" + r + ", " + set + ")", x, after);
                }
            }
        }
    }

    private static void rowFillsAndEmpties() {
        DmDecomposer x = graph(FULL);
        due("full", Answers.of(x), dueOfFull());
        for (int r = 0; r < 7; r++) {
            x.row(r, 0);
        }
        due("emptied row by row", Answers.of(x), dueOfEmpty());
    }

    private static void rowRefused(int[] rows, int r, int set) {
        DmDecomposer x = graph(rows);
        String what = "row(" + r + ", " + set + ")";
        due(what, x.row(r, set), false);
        dueColumns("after " + what, x, rows);
    }

    private static void rowRefusedForRow() {
        for (int bad : outside()) {
            for (int set = 0; set < 128; set++) {
                rowRefused(MIXED, bad, set);
            }
        }
    }

    private static void rowRefusedForSet() {
        for (int r = 0; r < 7; r++) {
            for (int k = 0; k < 400; k++) {
                rowRefused(MIXED, r, -1 - k);
                rowRefused(MIXED, r, 128 + k);
                rowRefused(MIXED, r, Integer.MIN_VALUE + k);
                rowRefused(MIXED, r, Integer.MAX_VALUE - k);
                rowRefused(MIXED, r, 65536 + k);
            }
        }
    }

    private static void rowRefusedForBoth() {
        for (int bad : outside()) {
            for (int set : new int[] {-1, 128, 255, 256, -128, Integer.MIN_VALUE, Integer.MAX_VALUE}) {
                rowRefused(MIXED, bad, set);
            }
        }
    }

    private static void rowElseTrue() {
        for (int r = 0; r < 7; r++) {
            for (int set = 0; set < 128; set++) {
                DmDecomposer x = new DmDecomposer();
                due("row(" + r + ", " + set + ")", x.row(r, set), true);
                due("row(" + r + ", " + set + ") again", x.row(r, set), true);
            }
        }
    }

    // ---- Promises 4, 8, 9 and 11: a question about one row

    private static int ask(DmDecomposer x, int promise, int r) {
        return switch (promise) {
            case 4 -> x.columnsOf(r);
            case 8 -> x.usable(r);
            case 9 -> x.forced(r);
            default -> x.blockRows(r);
        };
    }

    private static void badOutside(int promise) {
        due("BAD", DmDecomposer.BAD, -1);
        for (int[] rows : new int[][] {EMPTY, FULL, MIXED}) {
            DmDecomposer x = graph(rows);
            for (int bad : outside()) {
                due("promise " + promise + " for row " + bad, ask(x, promise, bad), -1);
            }
        }
    }

    private static void badNowhereElse(int promise) {
        for (int[] rows : new int[][] {EMPTY, FULL, MIXED, TRIANGLE, RING}) {
            DmDecomposer x = graph(rows);
            for (int r = 0; r < 7; r++) {
                int set = ask(x, promise, r);
                due("promise " + promise + " is a set for row " + r, 0 <= set && set <= ALL, true);
            }
        }
    }

    // ---- Promises 4 to 12: the least and the most that is answered

    private static void columnsOfEmptyAndFull() {
        DmDecomposer x = graph(0, 127, 1, 64, 0, 127, 0);
        dueColumns("empty and full", x, 0, 127, 1, 64, 0, 127, 0);
        dueColumns("asked again", x, 0, 127, 1, 64, 0, 127, 0);
    }

    private static void largestFromNoneToSeven() {
        for (int count = 0; count <= 7; count++) {
            int[] fullRows = Arrays.copyOf(FULL, count);
            int[] narrowRows = new int[7];
            Arrays.fill(narrowRows, (1 << count) - 1);
            due("diagonal of " + count, graph(diagonal(count)).largest(), count);
            due("full rows: " + count, graph(fullRows).largest(), count);
            due("full columns: " + count, graph(narrowRows).largest(), count);
        }
        due("full but one edge", graph(127, 127, 127, 127, 127, 127, 63).largest(), 7);
        due("no edge in the last column", graph(63, 63, 63, 63, 63, 63, 63).largest(), 6);
        due("no edge in the first column", graph(126, 126, 126, 126, 126, 126, 126).largest(), 6);
    }

    private static void looseRowsFromNoneToAll() {
        due("empty", graph(EMPTY).looseRows(), ALL);
        due("full", graph(FULL).looseRows(), 0);
        due("one full row lacks", graph(127, 127, 127, 127, 127, 127, 0).looseRows(), 64);
        due("one column lacks", graph(63, 63, 63, 63, 63, 63, 63).looseRows(), ALL);
        for (int count = 0; count <= 7; count++) {
            due("diagonal of " + count, graph(diagonal(count)).looseRows(), ALL & -1 << count);
        }
    }

    private static void looseColumnsFromNoneToAll() {
        due("empty", graph(EMPTY).looseColumns(), ALL);
        due("full", graph(FULL).looseColumns(), 0);
        due("one full row lacks", graph(127, 127, 127, 127, 127, 127, 0).looseColumns(), ALL);
        due("one column lacks", graph(63, 63, 63, 63, 63, 63, 63).looseColumns(), 64);
        for (int count = 0; count <= 7; count++) {
            due("diagonal of " + count, graph(diagonal(count)).looseColumns(), ALL & -1 << count);
        }
    }

    private static void usableFromNoneToAll() {
        DmDecomposer x = graph(127, 1, 0, 0, 0, 0, 1);
        due("all but the one that others need", x.usable(0), 126);
        due("one", x.usable(6), 1);
        due("none", x.usable(5), 0);
        x.edge(1, 0, false);
        x.edge(6, 0, false);
        due("all", x.usable(0), 127);
    }

    private static void forcedFromNoneToOne() {
        DmDecomposer x = graph(127, 0, 0, 0, 0, 0, 64);
        due("six to choose from", x.forced(0), 0);
        due("one", x.forced(6), 64);
        due("no edge", x.forced(3), 0);
        x.row(0, 65);
        due("one is left beside the other row's", x.forced(0), 1);
        x.row(6, 65);
        due("two for two", x.forced(0), 0);
        due("two for two", x.forced(6), 0);
    }

    private static void blocksFromNoneToSeven() {
        for (int count = 0; count <= 7; count++) {
            due("diagonal of " + count, graph(diagonal(count)).blocks(), count);
        }
        due("full", graph(FULL).blocks(), 1);
        due("ring", graph(RING).blocks(), 1);
    }

    private static void blockRowsNoUsableEdge() {
        DmDecomposer x = graph(0, 127, 127, 127, 127, 127, 0);
        due("empty first row", x.blockRows(0), 0);
        due("empty last row", x.blockRows(6), 0);
        due("between them", x.blockRows(3), 62);
        x.edge(0, 6, true);
        // The row needs its one column, so the other rows' edges to it are not usable.
        due("one edge", x.blockRows(0), 1);
        x.edge(0, 0, true);
        due("two edges", x.blockRows(0), 63);
        x.row(0, 0);
        due("empty again", x.blockRows(0), 0);
        due("between them again", x.blockRows(5), 62);
    }

    private static void blockRowsFromOneToAll() {
        for (int count = 1; count <= 7; count++) {
            DmDecomposer x = graph(Arrays.copyOf(FULL, count));
            for (int r = 0; r < 7; r++) {
                due("full rows: " + count, x.blockRows(r), r < count ? (1 << count) - 1 : 0);
            }
            x = graph(diagonal(count));
            for (int r = 0; r < 7; r++) {
                due("diagonal of " + count, x.blockRows(r), r < count ? 1 << r : 0);
            }
        }
    }

    private static void coverFromNoneToSeven() {
        for (int count = 0; count <= 7; count++) {
            int[] narrowRows = new int[7];
            Arrays.fill(narrowRows, (1 << count) - 1);
            due("diagonal of " + count, graph(diagonal(count)).cover(), count);
            due("full rows: " + count, graph(Arrays.copyOf(FULL, count)).cover(), count);
            due("full columns: " + count, graph(narrowRows).cover(), count);
        }
        due("a row and a column together", graph(1, 1, 1, 1, 1, 1, 127).cover(), 2);
        due("three rows and three columns together", graph(7, 7, 7, 7, 127, 127, 127).cover(), 6);
        due("an edge more", graph(15, 7, 7, 7, 127, 127, 127).cover(), 7);
    }

    // ---- Refused calls

    private static void refuseAll(DmDecomposer x, int bad, boolean there) {
        for (int good = 0; good < 7; good++) {
            due("edge(" + bad + ", " + good + ", " + there + ")", x.edge(bad, good, there), false);
            due("edge(" + good + ", " + bad + ", " + there + ")", x.edge(good, bad, there), false);
            due("row(" + good + ", " + (128 + good) + ")", x.row(good, 128 + good), false);
            due("row(" + good + ", " + (-1 - good) + ")", x.row(good, -1 - good), false);
        }
        due("edge(" + bad + ", " + bad + ", " + there + ")", x.edge(bad, bad, there), false);
        due("row(" + bad + ", " + (there ? 127 : 0) + ")", x.row(bad, there ? 127 : 0), false);
        for (int promise : new int[] {4, 8, 9, 11}) {
            due("promise " + promise + " for row " + bad, ask(x, promise, bad), -1);
        }
    }

    private static void refusedLeavesAnswers() {
        int[][] graphs = {EMPTY, FULL, MIXED};
        Answers[] wants = {dueOfEmpty(), dueOfFull(), dueOfMixed()};
        for (int bad : new int[] {-1, 7, 8, 14, 31, 32, 38, 64, -7, -32, 256, Integer.MIN_VALUE, Integer.MAX_VALUE}) {
            for (int g = 0; g < graphs.length; g++) {
                for (boolean there : new boolean[] {false, true}) {
                    DmDecomposer x = graph(graphs[g]);
                    refuseAll(x, bad, there);
                    due("after refusals with " + bad, Answers.of(x), wants[g]);
                }
            }
        }
    }

    private static void refusedThenChanged() {
        DmDecomposer x = new DmDecomposer();
        refuseAll(x, 7, true);
        for (int r = 0; r < 7; r++) {
            due("a change after refusals", x.row(r, MIXED[r]), true);
            refuseAll(x, -1, r % 2 == 0);
        }
        due("refusals between the changes", Answers.of(x), dueOfMixed());
    }

    private static void askingLeavesAnswers() {
        int[][] graphs = {EMPTY, FULL, MIXED};
        Answers[] wants = {dueOfEmpty(), dueOfFull(), dueOfMixed()};
        for (int g = 0; g < graphs.length; g++) {
            DmDecomposer x = graph(graphs[g]);
            for (int time = 0; time < 10; time++) {
                due("time " + time, Answers.of(x), wants[g]);
            }
        }
    }

    // ---- the sentences

    private static void whatItIsAndTerms() {
        test("An object is used for at most 512 calls after it has been made", BoundaryTest::theLastCall);
        test("at most 512 calls: the last answers together", BoundaryTest::theLastAnswersTogether);
        test("There are 7 rows and 7 columns, both numbered from 0 to 6", BoundaryTest::eachEdgeAlone);
        test("MATCHING: no two of which have the same row", BoundaryTest::eachRowAloneFull);
        test("MATCHING: or the same column", BoundaryTest::eachColumnAloneFull);
        test("It is LARGEST iff no matching has more edges", BoundaryTest::largestIsNotJustFull);
        test("An edge is USABLE iff it is in some largest matching", BoundaryTest::usableInSomeLargest);
        test("and FORCED iff it is in every one", BoundaryTest::forcedInEveryLargest);
        test("LOOSE iff some largest matching does not cover it", BoundaryTest::looseIffLeftOut);
        test("Two edges TOUCH iff they have the same row or the same column", BoundaryTest::touchBySameRowOrColumn);
        test("A BLOCK is a largest set of usable edges in which ..", BoundaryTest::blockIsLargestSetOfUsable);
        test("BLOCK: one comes from each to each by going ..", BoundaryTest::blockByTheLongestWay);
    }

    private static void promises1To3() {
        test("1: No edges", BoundaryTest::newObject);
        test("2: Makes the edge (r, c) be there (true) or not (false)", BoundaryTest::edgeThereOrNot);
        test("2: there or not, until full and until empty", BoundaryTest::edgeFillsAndEmpties);
        test("2: r or c outside 0..6: refused, answers false", BoundaryTest::edgeRefused);
        test("2: r or c outside 0..6, and both", BoundaryTest::edgeRefusedForBoth);
        test("2: Else true", BoundaryTest::edgeElseTrue);
        test("3: Makes the row's edges exactly those to the columns of a set", BoundaryTest::rowExactly);
        test("3: exactly those, until full and until empty", BoundaryTest::rowFillsAndEmpties);
        test("3: r outside 0..6: refused, answers false", BoundaryTest::rowRefusedForRow);
        test("3: or set outside 0..127: refused, answers false", BoundaryTest::rowRefusedForSet);
        test("3: r outside 0..6 or set outside 0..127, and both", BoundaryTest::rowRefusedForBoth);
        test("3: Else true", BoundaryTest::rowElseTrue);
    }

    private static void promises4To12() {
        for (int promise : new int[] {4, 8, 9, 11}) {
            test(promise + ": BAD for r outside 0..6", () -> badOutside(promise));
            test(promise + ": and a set for r in 0..6", () -> badNowhereElse(promise));
        }
        test("4: The columns to which a row has an edge", BoundaryTest::columnsOfEmptyAndFull);
        test("5: The number of edges of a largest matching", BoundaryTest::largestFromNoneToSeven);
        test("6: The rows that are loose", BoundaryTest::looseRowsFromNoneToAll);
        test("7: The columns that are loose", BoundaryTest::looseColumnsFromNoneToAll);
        test("8: The columns to which a row has a usable edge", BoundaryTest::usableFromNoneToAll);
        test("9: The columns to which a row has a forced edge", BoundaryTest::forcedFromNoneToOne);
        test("10: The number of blocks", BoundaryTest::blocksFromNoneToSeven);
        test("11: 0 if the row has no usable edge", BoundaryTest::blockRowsNoUsableEdge);
        test("11: The rows of the block that has usable edges of row r", BoundaryTest::blockRowsFromOneToAll);
        test("12: The least number of rows and columns, together", BoundaryTest::coverFromNoneToSeven);
    }

    private static void laterAnswers() {
        test("a refused call leaves every later answer as it was", BoundaryTest::refusedLeavesAnswers);
        test("a refused call leaves later changes as they are due", BoundaryTest::refusedThenChanged);
        test("Nothing beyond the state changes described: asking changes nothing", BoundaryTest::askingLeavesAnswers);
    }

    public static void main(String[] args) {
        whatItIsAndTerms();
        promises1To3();
        promises4To12();
        laterAnswers();
        System.out.println(tests + " tests of sentences, " + wrong + " answers not as due");
        if (wrong != 0) {
            System.exit(1);
        }
    }
}
