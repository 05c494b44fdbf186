/** Every sentence of promises 32 to 36, and of Terms 3 behind them, that names a bound. */
public final class BoundsOfHostTest {
    /** SHEET 1 holds two writers as things, hours, purses; SHEET 2 is as long and of the same sort; SHEET 0 is missing. */
    private static final String ROWS = "sheet(1,0,6) cell(1,0,1) cell(1,1,11) cell(1,2,111) cell(1,3,2) cell(1,4,22) cell(1,5,122)"
        + " sheet(2,0,6)";

    public static void main(String[] args) {
        sheet();
        sheetIsNew();
        cell();
        cellByItsBits();
        copy();
        copyOutside();
        copyAsTheyWere();
        writers();
        writersAsOfWriter();
        writersOutside();
        taken();
        Script.end("BoundsOfHostTest", 32, 36);
    }

    private static void sheet() {
        Script.holds("P32 a SHEET is 0 .. 3", "sheet(-1,0,1)=-2 sheet(4,0,1)=-2 sheet(2147483647,0,1)=-2",
            "sheet(-2147483648,0,1)=-2 sheet(0,0,1)=1 sheet(3,0,1)=1 cell(0,0,0)=1 cell(1,0,0)=-11 cell(2,0,0)=-11",
            "cell(3,0,0)=1");
        Script.holds("P32 a sort is -1 .. 2", "sheet(0,-2,1)=-2 sheet(0,3,1)=-2 sheet(0,2147483647,1)=-2",
            "sheet(0,-2147483648,1)=-2 cell(0,0,0)=-11 sheet(0,2,1)=1 cell(0,0,0)=1 sheet(0,0,1)=1 sheet(0,1,1)=1",
            "sheet(0,-1,1)=1 cell(0,0,0)=-11");
        Script.holds("P32 n is 40 at most", "sheet(0,0,41)=-2 sheet(0,1,41)=-2 sheet(0,2,41)=-2 sheet(0,0,2147483647)=-2",
            "cell(0,0,0)=-11 sheet(0,0,40)=1 cell(0,39,0)=1 cell(0,40,0)=-12 sheet(1,1,40)=1 cell(1,39,0)=1",
            "cell(1,40,0)=-12 sheet(2,2,40)=1 cell(2,39,0)=1 cell(2,40,0)=-12");
        Script.holds("P32 n is 0 at least", "sheet(0,0,-1)=-14 sheet(0,1,-1)=-14 sheet(0,2,-2147483648)=-14",
            "cell(0,0,0)=-11 sheet(0,0,0)=1 cell(0,0,0)=-12 sheet(0,1,0)=1 cell(0,0,0)=-12 sheet(0,2,0)=1 cell(0,0,0)=-12");
        Script.holds("P32 missing: n does not matter", "sheet(0,-1,-1)=1 sheet(0,-1,41)=1 sheet(0,-1,2147483647)=1",
            "sheet(0,-1,-2147483648)=1 sheet(0,-1,0)=1 cell(0,0,0)=-11 sheet(0,0,3) sheet(0,-1,-1)=1 cell(0,0,0)=-11");
        Script.holds("P32 BAD ahead of -14", "sheet(4,0,-1)=-2 sheet(-1,0,-1)=-2 sheet(0,3,-1)=-2 sheet(0,-2,-1)=-2",
            "sheet(4,-1,0)=-2 sheet(-1,-1,-1)=-2");
        Script.holds("P32 what is refused leaves the row", "sheet(0,2,2) sheet(0,0,41)=-2 sheet(0,0,-1)=-14",
            "sheet(0,3,1)=-2 cell(0,1,0)=1 cell(0,2,0)=-12 writers(0,2,0,0)=0");
    }

    private static void sheetIsNew() {
        Script.holds("P32 all 0", "sheet(0,2,3) writers(0,2,0,1)=1 told(0,1)=0 told(0,2)=0 told(0,3)=0");
        Script.holds("P32 all 0 again", "sheet(0,2,3) cell(0,0,1) cell(0,1,1) cell(0,2,1) sheet(0,2,3)=1",
            "writers(0,2,0,1)=1 told(0,1)=0 told(0,2)=0 told(0,3)=0");
        Script.holds("P32 all 0 behind a missing one", "sheet(0,2,3) cell(0,2,1) sheet(0,-1,3) sheet(0,1,3)=1",
            "writers(0,1,0,1)=1 told(0,3)=0");
        Script.holds("P32 all 0 behind a shorter one", "sheet(0,2,40) cell(0,39,1) cell(0,38,1) sheet(0,2,1) sheet(0,2,40)",
            "writers(0,2,37,1)=1 told(0,2)=0 told(0,3)=0");
        Script.holds("P32 of its sort from then on", "sheet(0,2,1) sheet(0,0,1) writers(0,2,0,0)=-13 writers(0,0,0,0)=0",
            "sheet(0,1,1) writers(0,0,0,0)=-13 writers(0,1,0,0)=0 sheet(0,2,1) writers(0,1,0,0)=-13 writers(0,2,0,0)=0");
        Script.holds("P32 others stay", ROWS, "sheet(0,2,9) sheet(2,-1,0) sheet(3,1,1) writers(1,0,0,2)=2 told(1,3)=122");
    }

    private static void cell() {
        Script.holds("P33 a SHEET is 0 .. 3", "sheet(0,0,1) sheet(3,0,1) cell(-1,0,0)=-2 cell(4,0,0)=-2",
            "cell(2147483647,0,0)=-2 cell(0,0,0)=1 cell(3,0,0)=1");
        Script.holds("P33 -11 where it is missing, whatever i is", "cell(0,0,0)=-11 cell(0,-1,0)=-11 cell(0,40,0)=-11",
            "sheet(0,0,1) cell(0,0,0)=1 sheet(0,-1,0) cell(0,0,0)=-11");
        Script.holds("P33 BAD ahead of -11 and -12", "cell(4,0,0)=-2 cell(-1,99,0)=-2");
        Script.holds("P33 -12 ahead of the first and behind the last", "sheet(0,0,3) cell(0,-1,0)=-12 cell(0,0,0)=1",
            "cell(0,2,0)=1 cell(0,3,0)=-12 cell(0,40,0)=-12 cell(0,2147483647,0)=-12 cell(0,-2147483648,0)=-12");
        Script.holds("P33 one item alone", "sheet(0,0,9) cell(0,4,7) writers(0,0,0,3)=3 told(0,3)=0 told(1,1)=0",
            "told(1,2)=7 told(1,3)=0 told(2,1)=0");
    }

    /** A purse by the item that becomes v: what it is, or that nobody came by it. */
    private static void purse(int sort, int v, int purse) {
        Script.holds("P33 item " + v + " of sort " + sort, "sheet(0," + sort + ",3) cell(0,2," + v + ")=1",
            purse < 0 ? "writers(0," + sort + ",0,1)=0 count(1)=0" : "writers(0," + sort + ",0,1)=1 told(0,3)=" + purse);
    }

    private static void cellByItsBits() {
        int[][] bytes = {{0, 0}, {1, 1}, {127, 127}, {128, -1}, {255, -1}, {256, 0}, {256 + 127, 127}, {256 + 128, -1}, {-1, -1}, {-128, -1},
            {-129, 127}, {-256, 0}, {-255, 1}, {65536 + 5, 5}, {9999, 15}, {Integer.MAX_VALUE, -1}, {Integer.MIN_VALUE, 0}};
        for (int[] b : bytes) purse(0, b[0], b[1]);
        int[][] shorts = {{0, 0}, {128, 128}, {255, 255}, {256, 256}, {9999, 9999}, {10000, -1}, {32767, -1}, {32768, -1}, {65535, -1}, {65536, 0},
            {65536 + 9999, 9999}, {-1, -1}, {-65536, 0}, {-65535, 1}, {-55537, 9999}, {Integer.MAX_VALUE, -1}, {Integer.MIN_VALUE, 0}};
        for (int[] s : shorts) purse(1, s[0], s[1]);
        int[][] ints = {{0, 0}, {255, 255}, {256, 256}, {9999, 9999}, {10000, -1}, {65536, -1}, {65536 + 5, -1}, {-1, -1}, {-65536, -1},
            {Integer.MAX_VALUE, -1}, {Integer.MIN_VALUE, -1}};
        for (int[] i : ints) purse(2, i[0], i[1]);
        Script.holds("P33 shorts keep 32767 and -32768", "sheet(0,1,1) writer(0,0,9) cell(0,0,-32768) judge(0)=0",
            "cell(0,0,65535) judge(0)=-1");
    }

    private static void copy() {
        Script.holds("P34 a SHEET is 0 .. 3", ROWS, "copy(-1,0,1,0,1)=-2 copy(4,0,1,0,1)=-2 copy(1,0,-1,0,1)=-2",
            "copy(1,0,4,0,1)=-2 copy(2147483647,0,1,0,1)=-2 copy(1,0,-2147483648,0,1)=-2 sheet(0,0,6) sheet(3,0,6)",
            "copy(0,0,3,0,1)=1 copy(3,0,0,0,1)=1");
        Script.holds("P34 BAD ahead of -11: no such one, and the other is missing", "copy(0,0,4,0,1)=-2",
            "copy(4,0,0,0,1)=-2 copy(-1,0,0,0,1)=-2 copy(0,0,-1,0,1)=-2");
        Script.holds("P34 -11 where either is missing", ROWS, "copy(0,0,1,0,1)=-11 copy(1,0,0,0,1)=-11",
            "copy(0,0,0,0,1)=-11 copy(0,0,3,0,0)=-11");
        Script.holds("P34 -11 ahead of -13 and -12", ROWS, "copy(0,9,1,9,99)=-11 copy(1,-1,0,0,-1)=-11",
            "copy(0,0,0,0,-1)=-11");
        Script.holds("P34 -13: they are of unlike sorts", "sheet(0,0,3) sheet(1,1,3) sheet(2,2,3) copy(0,0,1,0,1)=-13",
            "copy(1,0,0,0,1)=-13 copy(0,0,2,0,1)=-13 copy(2,0,0,0,1)=-13 copy(1,0,2,0,1)=-13 copy(2,0,1,0,1)=-13",
            "copy(0,0,1,0,0)=-13 copy(0,0,0,0,1)=1 copy(1,0,1,0,1)=1 copy(2,0,2,0,1)=1");
        Script.holds("P34 -13 ahead of -12", "sheet(0,0,3) sheet(1,1,3) copy(0,-1,1,0,1)=-13 copy(0,0,1,9,1)=-13",
            "copy(0,0,1,0,-1)=-13 copy(0,0,1,0,99)=-13");
    }

    private static void copyOutside() {
        Script.holds("P34 -12 with n below 0", ROWS, "copy(1,0,2,0,-1)=-12 copy(1,3,2,3,-1)=-12",
            "copy(1,0,2,0,-2147483648)=-12 copy(1,0,2,0,0)=0");
        Script.holds("P34 -12 ahead of the first", ROWS, "copy(1,-1,2,0,1)=-12 copy(1,0,2,-1,1)=-12 copy(1,-1,2,0,0)=-12",
            "copy(1,0,2,-1,0)=-12 copy(1,-2147483648,2,0,1)=-12 copy(1,0,2,-2147483648,1)=-12");
        Script.holds("P34 -12 behind the last of the one", "sheet(1,0,6) sheet(2,0,9) copy(1,0,2,0,6)=6",
            "copy(1,0,2,0,7)=-12 copy(1,1,2,0,5)=5 copy(1,1,2,0,6)=-12 copy(1,5,2,0,1)=1 copy(1,6,2,0,1)=-12");
        Script.holds("P34 -12 behind the last of the other", "sheet(1,0,9) sheet(2,0,6) copy(1,0,2,0,6)=6",
            "copy(1,0,2,0,7)=-12 copy(1,0,2,1,5)=5 copy(1,0,2,1,6)=-12 copy(1,0,2,5,1)=1 copy(1,0,2,6,1)=-12");
        Script.holds("P34 none, from where a row ends", ROWS, "copy(1,6,2,0,0)=0 copy(1,0,2,6,0)=0 copy(1,6,2,6,0)=0",
            "copy(1,7,2,0,0)=-12 copy(1,0,2,7,0)=-12 sheet(2,0,0) sheet(1,0,0) copy(1,0,2,0,0)=0 copy(1,0,2,0,1)=-12",
            "copy(1,1,2,0,0)=-12");
        Script.holds("P34 places whose sum wraps", ROWS, "copy(1,2147483647,2,0,1)=-12 copy(1,1,2,0,2147483647)=-12",
            "copy(1,0,2,1,2147483647)=-12 copy(1,0,2,2147483647,1)=-12 copy(1,2147483647,2,2147483647,2147483647)=-12",
            "copy(1,2147483647,2,0,0)=-12 copy(1,-2147483648,2,0,-2147483648)=-12 copy(1,1,2,1,-2147483648)=-12");
        Script.holds("P34 what is refused leaves the row", ROWS, "copy(2,0,1,4,3)=-12 copy(2,4,1,0,3)=-12",
            "copy(2,0,1,0,-1)=-12 writers(1,0,0,2)=2 told(0,1)=1 told(0,2)=11 told(0,3)=111 told(1,1)=2 told(1,2)=22",
            "told(1,3)=122");
        Script.holds("P34 a row of 40", "sheet(0,2,40) cell(0,39,7) sheet(1,2,40) copy(0,0,1,0,40)=40",
            "copy(0,0,1,0,41)=-12 writers(1,2,37,1)=1 told(0,3)=7");
    }

    private static void copyAsTheyWere() {
        Script.holds("P34 from item i on to item j on", ROWS, "copy(1,3,2,0,3)=3 copy(1,0,2,3,3)=3 writers(2,0,0,2)=2",
            "told(0,1)=2 told(0,2)=22 told(0,3)=122 told(1,1)=1 told(1,2)=11 told(1,3)=111");
        Script.holds("P34 no more than n", ROWS, "copy(1,0,2,0,2)=2 writers(2,0,0,2)=2 told(0,1)=1 told(0,2)=11",
            "told(0,3)=0 told(1,1)=0");
        Script.holds("P34 as they were: onward in one SHEET", "sheet(0,2,6) cell(0,0,1) cell(0,1,2) cell(0,2,3)",
            "cell(0,3,0) cell(0,4,0) cell(0,5,0) copy(0,0,0,1,5)=5 writers(0,2,0,2)=2 told(0,1)=1 told(0,2)=1 told(0,3)=2",
            "told(1,1)=3 told(1,2)=0 told(1,3)=0");
        Script.holds("P34 as they were: backward in one SHEET", "sheet(0,2,6) cell(0,0,0) cell(0,1,1) cell(0,2,2)",
            "cell(0,3,3) cell(0,4,3) cell(0,5,5) copy(0,1,0,0,5)=5 writers(0,2,0,2)=2 told(0,1)=1 told(0,2)=2 told(0,3)=3",
            "told(1,1)=3 told(1,2)=5 told(1,3)=5");
        Script.holds("P34 numbers below 0", "sheet(0,0,1) sheet(1,0,1) cell(0,0,255) copy(0,0,1,0,1)=1 writer(0,0,0)",
            "judge(1)=-1");
    }

    private static void writers() {
        Script.holds("P35 a SHEET is 0 .. 3", "sheet(0,0,3) sheet(3,0,3) writers(-1,0,0,1)=-2 writers(4,0,0,1)=-2",
            "writers(2147483647,0,0,1)=-2 writers(0,0,0,1)=1 writers(3,0,0,1)=1");
        Script.holds("P35 a sort is 0 .. 2", "sheet(0,0,3) sheet(1,2,3) writers(0,-1,0,1)=-2 writers(0,3,0,1)=-2",
            "writers(0,2147483647,0,1)=-2 writers(0,0,0,1)=1 writers(1,2,0,1)=1 writers(2,-1,0,0)=-2");
        Script.holds("P35 n is 0 .. 5", "sheet(0,0,40) writers(0,0,0,-1)=-2 writers(0,0,0,6)=-2",
            "writers(0,0,0,2147483647)=-2 writers(0,0,0,0)=0 count(1)=0 writers(0,0,0,5)=5 count(1)=5");
        Script.holds("P35 BAD ahead of -13, -11, -12", ROWS, "writers(1,1,0,6)=-2 writers(1,3,0,1)=-2 writers(0,0,0,6)=-2",
            "writers(0,3,0,0)=-2 writers(1,0,99,6)=-2 writers(1,0,99,-1)=-2 writers(4,1,0,0)=-2");
        Script.holds("P35 -13: it is of another sort", "sheet(0,0,3) sheet(1,1,3) sheet(2,2,3) writers(0,1,0,1)=-13",
            "writers(0,2,0,1)=-13 writers(1,0,0,1)=-13 writers(1,2,0,1)=-13 writers(2,0,0,1)=-13 writers(2,1,0,1)=-13",
            "count(1)=0 writers(0,0,0,1)=1 writers(1,1,0,1)=1 writers(2,2,0,1)=1");
        Script.holds("P35 -13 ahead of -12, and though n is 0", ROWS, "writers(1,1,99,1)=-13 writers(1,2,-1,5)=-13",
            "writers(1,2,0,0)=-13");
        Script.holds("P35 -11 where it is missing", "writers(0,0,0,1)=-11 writers(0,1,0,1)=-11 writers(0,2,0,1)=-11",
            "writers(3,0,-1,0)=-11 sheet(0,0,3) sheet(0,-1,0) writers(0,0,0,1)=-11 writers(0,0,99,5)=-11");
    }

    private static void writersAsOfWriter() {
        Script.holds("P35 THING, HOUR, PURSE, three by three", ROWS, "writers(1,0,0,2)=2 told(0,1)=1 told(0,2)=11",
            "told(0,3)=111 told(1,1)=2 told(1,2)=22 told(1,3)=122");
        Script.holds("P35 from one on", ROWS, "writers(1,0,3,1)=1 told(0,1)=2 told(0,2)=22 told(0,3)=122 count(1)=1");
        Script.holds("P35 n of them", ROWS, "writers(1,0,0,1)=1 count(1)=1 told(0,3)=111");
        Script.holds("P35 others are left out: bounds of THING, HOUR, PURSE", "sheet(0,1,15) cell(0,0,3) cell(0,1,23)",
            "cell(0,2,9999) cell(0,3,4) cell(0,7,24) cell(0,11,10000) cell(0,12,-1) writers(0,1,0,5)=1 told(0,1)=3",
            "told(0,2)=23 told(0,3)=9999 count(1)=1 cell(0,12,0) cell(0,13,-1) writers(0,1,12,1)=0 cell(0,13,0)",
            "cell(0,14,-1) writers(0,1,12,1)=0 cell(0,14,0) writers(0,1,12,1)=1 told(1,1)=0 told(1,2)=0 told(1,3)=0");
        Script.holds("P35 one behind another that is left out", "sheet(0,1,9) cell(0,0,9) cell(0,3,1) cell(0,4,1)",
            "cell(0,5,1) cell(0,6,9) writers(0,1,0,3)=1 told(0,1)=1 count(1)=1");
        Script.holds("P35 those without room are left out", "writer(3,3,3) writer(3,3,3) writer(3,3,3) sheet(0,0,15)",
            "writers(0,0,0,5)=2 count(1)=5 writers(0,0,0,5)=0 count(1)=5 told(2,1)=3 told(3,1)=0");
        Script.holds("P35 five from a row of 15", "sheet(0,0,15) writers(0,0,0,5)=5 count(1)=5");
    }

    private static void writersOutside() {
        Script.holds("P35 -12 behind the last", ROWS, "writers(1,0,3,1)=1 writers(1,0,4,1)=-12 writers(1,0,5,1)=-12",
            "writers(1,0,6,1)=-12 writers(1,0,2147483647,1)=-12 writers(1,0,2147483645,5)=-12 count(1)=1");
        Script.holds("P35 -12 ahead of the first", ROWS, "writers(1,0,-1,1)=-12 writers(1,0,-3,2)=-12",
            "writers(1,0,-2147483648,1)=-12 count(1)=0");
        Script.holds("P35 -12: what stood ahead came", ROWS, "writers(1,0,0,3)=-12 count(1)=2 told(1,3)=122");
        Script.holds("P35 -12: all that stood ahead came", "sheet(0,0,14) writers(0,0,0,5)=-12 count(1)=4",
            "writers(0,0,2,4)=1 count(1)=5");
        Script.holds("P35 -12: what stood ahead came, others are left out", "sheet(0,0,8) cell(0,0,9)",
            "writers(0,0,0,3)=-12 count(1)=1");
        Script.holds("P35 -12 of a row of none", "sheet(0,0,0) writers(0,0,0,1)=-12 writers(0,0,0,0)=0 sheet(0,0,2)",
            "writers(0,0,0,1)=-12 count(1)=0");
        Script.holds("P35 none from anywhere", ROWS, "writers(1,0,6,0)=0 writers(1,0,7,0)=0 writers(1,0,-1,0)=0",
            "writers(1,0,2147483647,0)=0");
        Script.holds("P35 -12, though there is no room", "writer(0,0,0) writer(0,0,0) writer(0,0,0) writer(0,0,0)",
            "writer(0,0,0)", ROWS, "writers(1,0,0,3)=-12 writers(1,0,0,2)=0 count(1)=5");
        Script.holds("P35 from the end of a row of 40", "sheet(0,1,40) writers(0,1,37,1)=1 writers(0,1,38,1)=-12",
            "writers(0,1,34,2)=2");
    }

    private static void taken() {
        Script.holds("P36 k is 0 .. 5", "taken(0,-1)=-2 taken(0,6)=-2 taken(0,2147483647)=-2 taken(0,-2147483648)=-2",
            "taken(0,0)=1 law(5,7) taken(1,5)=7");
        Script.holds("P36 -11: no such LAW", "taken(-1,0)=-11 taken(1,0)=-11 taken(2147483647,5)=-11",
            "taken(-2147483648,0)=-11 law(0,1) law(0,2) law(0,3) law(0,4) law(0,5) taken(5,0)=5 taken(6,0)=-11");
        Script.holds("P36 BAD ahead of -11", "taken(9,6)=-2 taken(-1,-1)=-2 taken(1,6)=-2");
        Script.holds("P36 -11 ahead of -13", "taken(1,5)=-11 taken(-1,5)=-11");
        Script.holds("P36 a LAW of KIND LAW", "law(0,0)=1 taken(1,0)=0 taken(1,1)=-13 taken(1,2)=-13 taken(1,3)=-13",
            "taken(1,4)=-13 taken(1,5)=-13");
        Script.holds("P36 a STEEP is under LAW", "law(1,9)=1 taken(1,0)=9 taken(1,1)=9 taken(1,2)=-13 taken(1,3)=-13",
            "taken(1,4)=-13 taken(1,5)=-13");
        Script.holds("P36 a FLAT is under LAW", "law(2,8)=1 taken(1,0)=8 taken(1,1)=-13 taken(1,2)=8 taken(1,3)=-13",
            "taken(1,4)=-13 taken(1,5)=-13");
        Script.holds("P36 a STEPS is under STEEP, so under LAW", "law(3,7)=1 taken(1,0)=7 taken(1,1)=7 taken(1,2)=-13",
            "taken(1,3)=7 taken(1,4)=-13 taken(1,5)=-13");
        Script.holds("P36 a NIGHT is under FLAT, so under LAW", "law(4,6)=1 taken(1,0)=6 taken(1,1)=-13 taken(1,2)=6",
            "taken(1,3)=-13 taken(1,4)=6 taken(1,5)=-13");
        Script.holds("P36 a RARE is under STEEP, so under LAW", "law(5,5)=1 taken(1,0)=5 taken(1,1)=5 taken(1,2)=-13",
            "taken(1,3)=-13 taken(1,4)=-13 taken(1,5)=5");
        Script.holds("P36 its NUMBER as it is now", "law(3,7) set(4,1,0) taken(1,1)=0 set(4,1,9) taken(1,3)=9",
            "taken(1,2)=-13");
    }
}
