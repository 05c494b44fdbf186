/** Promises 32 to 36: sheet, cell, copy, writers, taken. */
public final class HostTest {
    public static void main(String[] args) {
        sheets();
        sheetsAreNewEachTime();
        cells();
        copies();
        copiesThatOverlap();
        wrongCopies();
        writers();
        writersBySort();
        writersOutside();
        writersWithoutRoom();
        taken();
        Checks.end("HostTest");
    }

    private static void sheets() {
        DearerByUse x = new DearerByUse();
        int[][] bad = {{-1, 0, 1}, {4, 0, 1}, {0, -2, 1}, {0, 3, 1}, {0, 0, 41}, {0, 2, Integer.MAX_VALUE}, {4, -1, 0},
            {-1, -1, 0}, {0, 3, -1}, {0, Integer.MAX_VALUE, 1}, {0, Integer.MIN_VALUE, 1}};
        for (int[] b : bad) Checks.due("a bad sheet", x.sheet(b[0], b[1], b[2]), -2);
        Checks.due("below 0", x.sheet(0, 0, -1), -14);
        Checks.due("below 0", x.sheet(0, 2, Integer.MIN_VALUE), -14);
        Checks.due("still missing", x.cell(0, 0, 0), -11);
        Checks.due("missing whatever n is", x.sheet(0, -1, -5), 1);
        Checks.due("missing whatever n is", x.sheet(0, -1, 41), 1);
        for (int sort = 0; sort < 3; sort++) {
            Checks.due("sheet", x.sheet(sort, sort, 40), 1);
            Checks.due("the last", x.cell(sort, 39, 1), 1);
            Checks.due("outside", x.cell(sort, 40, 1), -12);
            Checks.due("none", x.sheet(sort, sort, 0), 1);
            Checks.due("outside", x.cell(sort, 0, 1), -12);
        }
        Checks.due("refused", x.sheet(0, 0, 41), -2);
        Checks.due("refused", x.sheet(0, 0, -1), -14);
        Checks.due("it is as it was", x.cell(0, 0, 1), -12);
        Checks.due("gone", x.sheet(0, -1, 0), 1);
        Checks.due("gone", x.cell(0, 0, 1), -11);
    }

    /** The one writer pays 0, so that a sheet that is all 0 is judged right. */
    private static void sheetsAreNewEachTime() {
        DearerByUse x = new DearerByUse();
        x.set(4, 0, 0);
        x.word(0, 1);
        x.writer(0, 0, 9);
        x.sheet(2, 2, 1);
        Checks.due("all 0", x.judge(2), -1);
        x.cell(2, 0, 7);
        Checks.due("7", x.judge(2), 0);
        x.sheet(2, 2, 1);
        Checks.due("all 0 again", x.judge(2), -1);
        x.cell(2, 0, 7);
        x.sheet(2, -1, 0);
        x.sheet(2, 1, 1);
        Checks.due("all 0 again", x.judge(2), -1);
    }

    private static void cells() {
        DearerByUse x = new DearerByUse();
        Checks.due("missing", x.cell(0, 0, 0), -11);
        Checks.due("missing, and outside", x.cell(0, 99, 0), -11);
        Checks.due("no such sheet", x.cell(4, 0, 0), -2);
        Checks.due("no such sheet", x.cell(-1, 0, 0), -2);
        x.sheet(0, 2, 3);
        Checks.due("outside", x.cell(0, 3, 0), -12);
        Checks.due("outside", x.cell(0, -1, 0), -12);
        Checks.due("outside", x.cell(0, Integer.MAX_VALUE, 0), -12);
        Checks.due("outside", x.cell(0, Integer.MIN_VALUE, 0), -12);
        Checks.due("cell", x.cell(0, 2, Integer.MIN_VALUE), 1);
        // What a cell keeps is seen by the purse that a writer gets by it.
        int[][] kept = {{0, 127, 127}, {0, 256 + 5, 5}, {0, 128, -1}, {0, 1024 + 255, -1}, {0, -1 - 255, 0},
            {1, 9999, 9999}, {1, 65536 + 7, 7}, {1, 32768 + 7, -1}, {1, -65536 + 300, 300}, {2, 9999, 9999},
            {2, 65536 + 7, -1}, {2, 10000, -1}};
        for (int[] k : kept) {
            DearerByUse y = new DearerByUse();
            y.sheet(1, k[0], 3);
            y.cell(1, 2, k[1]);
            Checks.due("a writer by " + k[1] + " of sort " + k[0], y.writers(1, k[0], 0, 1), k[2] < 0 ? 0 : 1);
            Checks.due("its purse", y.told(0, 3), k[2] < 0 ? -2 : k[2]);
        }
    }

    private static void row(DearerByUse x, int sheet, int sort, int... values) {
        x.sheet(sheet, sort, values.length);
        for (int i = 0; i < values.length; i++) x.cell(sheet, i, values[i]);
    }

    /** Looks at a row of things, hours and purses by the writers that it makes. */
    private static void seen(DearerByUse x, int sheet, int sort, int... values) {
        x.image();
        int n = values.length / 3;
        Checks.due("writers by the row", x.writers(sheet, sort, 0, n), n);
        for (int i = 0; i < values.length; i++) Checks.due("item " + i, x.told(i / 3, 1 + i % 3), values[i]);
        x.back();
    }

    private static void copies() {
        for (int sort = 0; sort < 3; sort++) {
            DearerByUse x = new DearerByUse();
            row(x, 0, sort, 1, 11, 111, 2, 22, 122);
            row(x, 3, sort, 0, 0, 0, 0, 0, 0, 0);
            Checks.due("copy", x.copy(0, 0, 3, 1, 6), 6);
            Checks.due("copy", x.copy(0, 0, 3, 0, 3), 3);
            Checks.due("copy", x.copy(0, 3, 3, 3, 3), 3);
            seen(x, 3, sort, 1, 11, 111, 2, 22, 122);
            Checks.due("what is copied stays", x.copy(0, 0, 0, 0, 6), 6);
            seen(x, 0, sort, 1, 11, 111, 2, 22, 122);
            Checks.due("none", x.copy(0, 6, 3, 7, 0), 0);
            Checks.due("none", x.copy(0, 0, 3, 0, 0), 0);
        }
    }

    private static void copiesThatOverlap() {
        DearerByUse x = new DearerByUse();
        row(x, 0, 2, 0, 1, 2, 3, 3, 3);
        Checks.due("onward", x.copy(0, 0, 0, 1, 4), 4);
        seen(x, 0, 2, 0, 0, 1, 2, 3, 3);
        row(x, 0, 2, 9, 0, 1, 2, 3, 4);
        Checks.due("backward", x.copy(0, 1, 0, 0, 5), 5);
        seen(x, 0, 2, 0, 1, 2, 3, 4, 4);
    }

    private static void wrongCopies() {
        DearerByUse x = new DearerByUse();
        x.sheet(0, 0, 3);
        x.sheet(1, 1, 3);
        x.sheet(2, 0, 5);
        int[][] due = {{-1, 0, 0, 0, 1, -2}, {4, 0, 0, 0, 1, -2}, {0, 0, -1, 0, 1, -2}, {0, 0, 4, 0, 1, -2},
            {3, 0, 4, 0, 1, -2}, {3, 0, 0, 0, 1, -11}, {0, 0, 3, 0, 1, -11}, {3, 0, 3, -1, -1, -11},
            {0, 0, 1, 0, 1, -13}, {1, 9, 2, 9, 9, -13}, {0, 0, 2, 0, 4, -12}, {2, 0, 0, 0, 4, -12}, {0, 1, 2, 0, 3, -12},
            {2, 0, 0, 1, 3, -12}, {0, -1, 2, 0, 1, -12}, {0, 0, 2, -1, 1, -12}, {0, 0, 2, 0, -1, -12}, {0, 4, 2, 0, 0, -12},
            {0, 3, 2, 6, 0, -12}, {0, 1, 2, 1, Integer.MAX_VALUE, -12}, {0, Integer.MAX_VALUE, 2, 0, 1, -12},
            {0, Integer.MAX_VALUE, 2, 0, Integer.MAX_VALUE, -12}, {0, 0, 2, Integer.MAX_VALUE, 1, -12},
            {0, 0, 2, 0, Integer.MIN_VALUE, -12}, {0, Integer.MIN_VALUE, 2, 0, Integer.MIN_VALUE, -12}, {0, 3, 2, 5, 0, 0}};
        for (int[] d : due) {
            String call = "copy(" + d[0] + ", " + d[1] + ", " + d[2] + ", " + d[3] + ", " + d[4] + ")";
            Checks.due(call, x.copy(d[0], d[1], d[2], d[3], d[4]), d[5]);
        }
        row(x, 2, 0, 1, 1, 1, 1, 1);
        row(x, 0, 0, 0, 0, 0);
        x.copy(2, 3, 0, 0, 3);
        seen(x, 0, 0, 0, 0, 0);
    }

    private static void writers() {
        DearerByUse x = new DearerByUse();
        row(x, 0, 2, 9, 1, 2, 3, 4, 5, 6, 2, 24, 6, 3, 23, 9999, 0, 0, 10000, 0, 0);
        int[][] bad = {{-1, 2, 0, 1}, {4, 2, 0, 1}, {0, -1, 0, 1}, {0, 3, 0, 1}, {0, 2, 0, 6}, {0, 2, 0, -1}, {1, 0, 0, 6}};
        for (int[] b : bad) Checks.due("bad writers", x.writers(b[0], b[1], b[2], b[3]), -2);
        Checks.due("of another sort", x.writers(0, 0, 0, 0), -13);
        Checks.due("of another sort, and outside", x.writers(0, 1, 99, 1), -13);
        Checks.due("missing", x.writers(1, 1, 0, 1), -11);
        Checks.due("missing, though none is asked", x.writers(1, 2, 0, 0), -11);
        Checks.due("none came", x.count(1), 0);
        Checks.due("none asked", x.writers(0, 2, 0, 0), 0);
        Checks.due("none asked, from anywhere", x.writers(0, 2, -7, 0), 0);
        Checks.due("two of four", x.writers(0, 2, 1, 4), 2);
        Checks.due("the first", x.told(0, 1), 1);
        Checks.due("the first", x.told(0, 2), 2);
        Checks.due("the first", x.told(0, 3), 3);
        Checks.due("the second", x.told(1, 1), 3);
        Checks.due("the second", x.told(1, 2), 23);
        Checks.due("the second", x.told(1, 3), 9999);
    }

    private static void writersBySort() {
        for (int sort = 0; sort < 3; sort++) {
            DearerByUse x = new DearerByUse();
            row(x, 2, sort, 3, 2, 1);
            for (int other = 0; other < 3; other++) {
                Checks.due("writers of sort " + other, x.writers(2, other, 0, 1), other == sort ? 1 : -13);
            }
            Checks.due("one came", x.count(1), 1);
            Checks.due("its purse", x.told(0, 3), 1);
        }
    }

    private static void writersOutside() {
        DearerByUse x = new DearerByUse();
        row(x, 0, 1, 1, 1, 1, 2, 2, 2, 3, 3);
        Checks.due("the third lies outside", x.writers(0, 1, 0, 3), -12);
        Checks.due("what stood ahead came", x.count(1), 2);
        Checks.due("its thing", x.told(1, 1), 2);
        int[] froms = {-1, 6, 7, 8, 9, Integer.MAX_VALUE, Integer.MAX_VALUE - 1, Integer.MIN_VALUE};
        for (int from : froms) Checks.due("writers from " + from, x.writers(0, 1, from, 1), -12);
        Checks.due("none came", x.count(1), 2);
        Checks.due("the last three", x.writers(0, 1, 5, 1), 1);
        Checks.due("its purse", x.told(2, 3), 3);
        DearerByUse y = new DearerByUse();
        y.sheet(0, 0, 0);
        Checks.due("an empty row", y.writers(0, 0, 0, 1), -12);
        Checks.due("an empty row", y.writers(0, 0, 0, 0), 0);
    }

    private static void writersWithoutRoom() {
        DearerByUse x = new DearerByUse();
        for (int i = 0; i < 3; i++) x.writer(3, 3, 3);
        x.sheet(0, 0, 14);
        Checks.due("there is room for two", x.writers(0, 0, 0, 4), 2);
        Checks.due("five", x.count(1), 5);
        Checks.due("there is no room", x.writers(0, 0, 0, 4), 0);
        Checks.due("there is no room, but a place outside", x.writers(0, 0, 0, 5), -12);
    }

    private static void taken() {
        boolean[][] under = {
            {true, false, false, false, false, false},
            {true, true, false, false, false, false},
            {true, false, true, false, false, false},
            {true, true, false, true, false, false},
            {true, false, true, false, true, false},
            {true, true, false, false, false, true}};
        for (int kind = 0; kind < 6; kind++) {
            DearerByUse x = new DearerByUse();
            x.law(kind, 4 + kind % 5);
            for (int k = 0; k < 6; k++) {
                Checks.due("kind " + kind + " taken for " + k, x.taken(1, k), under[kind][k] ? 4 + kind % 5 : -13);
            }
            Checks.due("no such law", x.taken(2, 0), -11);
        }
        DearerByUse x = new DearerByUse();
        Checks.due("taken(0, 0)", x.taken(0, 0), 1);
        x.set(4, 0, 8);
        Checks.due("taken(0, 0)", x.taken(0, 0), 8);
        int[] laws = {-1, 1, 6, Integer.MAX_VALUE, Integer.MIN_VALUE};
        for (int law : laws) {
            Checks.due("taken(" + law + ", 0)", x.taken(law, 0), -11);
            Checks.due("taken(" + law + ", 6)", x.taken(law, 6), -2);
            Checks.due("taken(" + law + ", -1)", x.taken(law, -1), -2);
        }
    }
}
