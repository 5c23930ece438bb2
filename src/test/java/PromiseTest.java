/** Each promise by hand-made graphs: ordinary inputs, the edges that the document names, wrong inputs. */
public final class PromiseTest {
    private static final int[] OUTSIDE = {-1, 7, 8, 31, 32, 33, 64, -32, -7, 127, 128,
        Integer.MIN_VALUE, Integer.MIN_VALUE + 1, Integer.MAX_VALUE};
    private static final int[] NO_SETS = {-1, 128, 129, 255, 256, -128, Integer.MIN_VALUE, Integer.MAX_VALUE};

    // A path by the rows 0, 6, 4, 1, 2, 3, 5, each sharing a column with the next: any one of them is left out.
    private static final int[] LONG_WAY = {1, 12, 24, 48, 6, 32, 3};

    private static int wrong = 0;

    private static void due(String what, int got, int want) {
        if (got != want) {
            wrong++;
            System.out.println(what + " answered " + got + ", due is " + want);
        }
    }

    private static void due(String what, boolean got, boolean want) {
        if (got != want) {
            wrong++;
            System.out.println(what + " answered " + got + ", due is " + want);
        }
    }

    private static DmDecomposer graph(int... rows) {
        DmDecomposer x = new DmDecomposer();
        for (int r = 0; r < rows.length; r++) {
            due("graph: row(" + r + ", " + rows[r] + ")", x.row(r, rows[r]), true);
        }
        return x;
    }

    private static void dueColumns(String what, DmDecomposer x, int... rows) {
        for (int r = 0; r < 7; r++) {
            due(what + ": columnsOf(" + r + ")", x.columnsOf(r), r < rows.length ? rows[r] : 0);
        }
    }

    private static void promise1NewObject() {
        DmDecomposer x = new DmDecomposer();
        dueColumns("1 new", x);
        due("1 new: largest", x.largest(), 0);
        due("1 new: looseRows", x.looseRows(), 127);
        due("1 new: looseColumns", x.looseColumns(), 127);
        due("1 new: blocks", x.blocks(), 0);
        due("1 new: cover", x.cover(), 0);
        for (int r = 0; r < 7; r++) {
            due("1 new: usable " + r, x.usable(r), 0);
            due("1 new: forced " + r, x.forced(r), 0);
            due("1 new: blockRows " + r, x.blockRows(r), 0);
        }
        DmDecomposer other = new DmDecomposer();
        x.edge(0, 0, true);
        dueColumns("1 another object's edge", other);
    }

    private static void promise2Edge() {
        DmDecomposer x = new DmDecomposer();
        for (int r = 0; r < 7; r++) {
            for (int c = 0; c < 7; c++) {
                due("2 on", x.edge(r, c, true), true);
                due("2 on: columnsOf", x.columnsOf(r), (2 << c) - 1);
            }
        }
        due("2 on again", x.edge(3, 3, true), true);
        dueColumns("2 on again", x, 127, 127, 127, 127, 127, 127, 127);
        due("2 off", x.edge(3, 5, false), true);
        due("2 off again", x.edge(3, 5, false), true);
        due("2 off corner", x.edge(6, 6, false), true);
        due("2 off corner", x.edge(0, 0, false), true);
        dueColumns("2 off", x, 126, 127, 127, 95, 127, 127, 63);
        for (int bad : OUTSIDE) {
            for (int good = 0; good < 7; good += 3) {
                due("2 bad row " + bad, x.edge(bad, good, good == 3), false);
                due("2 bad column " + bad, x.edge(good, bad, good == 3), false);
            }
            due("2 both bad " + bad, x.edge(bad, bad, false), false);
        }
        dueColumns("2 after refusals", x, 126, 127, 127, 95, 127, 127, 63);
    }

    private static void promise3Row() {
        DmDecomposer x = new DmDecomposer();
        for (int set = 0; set < 128; set++) {
            due("3 row " + set, x.row(set % 7, set), true);
            due("3 columnsOf " + set, x.columnsOf(set % 7), set);
        }
        for (int r = 0; r < 7; r++) {
            x.row(r, 1 << r);
        }
        dueColumns("3 rows are apart", x, 1, 2, 4, 8, 16, 32, 64);
        due("3 emptied", x.row(4, 0), true);
        due("3 filled", x.row(2, 127), true);
        for (int bad : OUTSIDE) {
            due("3 bad row " + bad, x.row(bad, 0), false);
            due("3 bad row " + bad, x.row(bad, 127), false);
        }
        for (int bad : NO_SETS) {
            due("3 bad set " + bad, x.row(0, bad), false);
            due("3 bad set " + bad, x.row(6, bad), false);
            due("3 both bad " + bad, x.row(7, bad), false);
        }
        dueColumns("3 after refusals", x, 1, 2, 127, 8, 0, 32, 64);
    }

    private static void promise4ColumnsOf() {
        DmDecomposer x = graph(5, 0, 127, 64);
        dueColumns("4 rows", x, 5, 0, 127, 64);
        dueColumns("4 asking changes nothing", x, 5, 0, 127, 64);
        for (int bad : OUTSIDE) {
            due("4 bad row " + bad, x.columnsOf(bad), -1);
        }
    }

    private static void promise5Largest() {
        due("5 one edge", graph(0, 0, 64).largest(), 1);
        due("5 one full row", graph(0, 0, 127).largest(), 1);
        due("5 one full column", graph(8, 8, 8, 8, 8, 8, 8).largest(), 1);
        due("5 full", graph(127, 127, 127, 127, 127, 127, 127).largest(), 7);
        due("5 diagonal", graph(64, 32, 16, 8, 4, 2, 1).largest(), 7);
        // Taking the lowest column first would leave the next row without one, again and again.
        due("5 staircase", graph(3, 5, 9, 17, 33, 65, 1).largest(), 7);
        due("5 chain", graph(3, 6, 12, 24, 48, 96, 1).largest(), 7);
        due("5 three rows, two columns", graph(3, 3, 3, 4).largest(), 3);
        DmDecomposer x = graph(1, 2);
        x.edge(1, 1, false);
        due("5 after a removal", x.largest(), 1);
    }

    private static void promise6LooseRows() {
        due("6 one edge", graph(0, 0, 64).looseRows(), 123);
        due("6 two for one column", graph(1, 1, 2).looseRows(), 123);
        due("6 full", graph(127, 127, 127, 127, 127, 127, 127).looseRows(), 0);
        due("6 three for two", graph(3, 3, 3, 4, 8, 16, 32).looseRows(), 7);
        // Row 0 is let go through row 1, which takes its column.
        due("6 along a path", graph(1, 3, 2, 4, 8, 16, 32).looseRows(), 7);
    }

    private static void promise7LooseColumns() {
        due("7 one edge", graph(0, 0, 64).looseColumns(), 63);
        due("7 one row with two", graph(3, 4).looseColumns(), 123);
        due("7 full", graph(127, 127, 127, 127, 127, 127, 127).looseColumns(), 0);
        due("7 two rows, three columns", graph(7, 7, 8, 16, 32, 64, 0).looseColumns(), 7);
        due("7 along a path", graph(3, 6, 8, 16, 32, 64, 64).looseColumns(), 7);
        due("7 differs from rows", graph(1, 1, 1).looseColumns(), 126);
    }

    private static void promise8Usable() {
        DmDecomposer x = graph(1, 3, 7, 15, 31, 63, 127);
        for (int r = 0; r < 7; r++) {
            due("8 triangle " + r, x.usable(r), 1 << r);
        }
        x = graph(3, 3, 7);
        due("8 pair", x.usable(0), 3);
        due("8 beside the pair", x.usable(2), 4);
        due("8 empty row", x.usable(3), 0);
        x = graph(1, 1, 3);
        due("8 loose row", x.usable(1), 1);
        due("8 only the other column", x.usable(2), 2);
        // Column 2 is wanted by the rows 1 and 2 alone; row 0 would waste it.
        x = graph(3, 4, 4);
        due("8 free choice", x.usable(0), 3);
        x.edge(0, 2, true);
        due("8 wasteful edge", x.usable(0), 3);
        for (int bad : OUTSIDE) {
            due("8 bad row " + bad, x.usable(bad), -1);
        }
    }

    private static void promise9Forced() {
        DmDecomposer x = graph(1, 3, 7, 15, 31, 63, 127);
        for (int r = 0; r < 7; r++) {
            due("9 triangle " + r, x.forced(r), 1 << r);
        }
        x = graph(3, 3, 4);
        due("9 a choice", x.forced(0), 0);
        due("9 no choice", x.forced(2), 4);
        due("9 empty row", x.forced(5), 0);
        x = graph(1, 1);
        due("9 single usable edge of a loose row", x.forced(0), 0);
        due("9 single usable edge of a loose row", x.forced(1), 0);
        x = graph(64);
        due("9 only edge", x.forced(0), 64);
        due("9 two columns for one row", graph(96).forced(0), 0);
        for (int bad : OUTSIDE) {
            due("9 bad row " + bad, x.forced(bad), -1);
        }
    }

    private static void promise10Blocks() {
        due("10 one edge", graph(0, 0, 64).blocks(), 1);
        due("10 full", graph(127, 127, 127, 127, 127, 127, 127).blocks(), 1);
        due("10 diagonal", graph(1, 2, 4, 8, 16, 32, 64).blocks(), 7);
        due("10 triangle: only usable edges join", graph(1, 3, 7, 15, 31, 63, 127).blocks(), 7);
        due("10 shared column", graph(8, 8, 8).blocks(), 1);
        due("10 ring", graph(3, 6, 12, 24, 48, 96, 65).blocks(), 1);
        due("10 two pairs", graph(3, 12, 3, 12).blocks(), 2);
        due("10 long way", graph(LONG_WAY).blocks(), 1);
        due("10 long way, closed by a free column's edge", graph(1, 12, 24, 48, 6, 96, 3).blocks(), 7);
    }

    private static void promise11BlockRows() {
        DmDecomposer x = graph(3, 12, 3, 12, 0, 16);
        due("11 first pair", x.blockRows(0), 5);
        due("11 first pair, from its end", x.blockRows(2), 5);
        due("11 second pair", x.blockRows(1), 10);
        due("11 second pair, from its end", x.blockRows(3), 10);
        due("11 empty row", x.blockRows(4), 0);
        due("11 alone", x.blockRows(5), 32);
        x = graph(3, 6, 12, 24, 48, 96);
        for (int r = 0; r < 6; r++) {
            due("11 chain with a free column " + r, x.blockRows(r), 63);
        }
        due("11 beside the chain", x.blockRows(6), 0);
        x = graph(LONG_WAY);
        for (int r = 0; r < 7; r++) {
            due("11 long way " + r, x.blockRows(r), 127);
        }
        x = graph(96, 48, 24, 12, 6, 3);
        for (int r = 0; r < 6; r++) {
            due("11 chain the other way " + r, x.blockRows(r), 63);
        }
        for (int bad : OUTSIDE) {
            due("11 bad row " + bad, x.blockRows(bad), -1);
        }
    }

    private static void promise12Cover() {
        due("12 one edge", graph(0, 0, 64).cover(), 1);
        due("12 one full row", graph(0, 127).cover(), 1);
        due("12 one full column", graph(2, 2, 2, 2, 2, 2, 2).cover(), 1);
        due("12 a row and a column", graph(2, 127, 2, 2, 2, 2, 2).cover(), 2);
        due("12 full", graph(127, 127, 127, 127, 127, 127, 127).cover(), 7);
        due("12 full but one row", graph(127, 127, 127, 127, 127, 127).cover(), 6);
        due("12 chain", graph(3, 6, 12).cover(), 3);
    }

    private static void constants() {
        due("BAD", DmDecomposer.BAD, -1);
    }

    public static void main(String[] args) {
        constants();
        promise1NewObject();
        promise2Edge();
        promise3Row();
        promise4ColumnsOf();
        promise5Largest();
        promise6LooseRows();
        promise7LooseColumns();
        promise8Usable();
        promise9Forced();
        promise10Blocks();
        promise11BlockRows();
        promise12Cover();
        System.out.println(wrong == 0 ? "all answers are as due" : wrong + " answers are not as due");
        if (wrong != 0) {
            System.exit(1);
        }
    }
}
