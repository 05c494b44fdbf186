/** Promises 24 to 31: judge, fits, whose, drawn, chance, image, back, count. */
public final class SaidTest {
    public static void main(String[] args) {
        judging();
        judgingFive();
        judgingByBytes();
        refusals();
        fits();
        fitsInItsTurn();
        whose();
        drawn();
        chance();
        wrongChance();
        images();
        whatNoImageKeeps();
        counts();
        Checks.end("SaidTest");
    }

    private static void fill(DearerByUse x, int sheet, int sort, int... values) {
        x.sheet(sheet, sort, values.length);
        for (int i = 0; i < values.length; i++) x.cell(sheet, i, values[i]);
    }

    private static DearerByUse threeWriters() {
        DearerByUse x = new DearerByUse();
        x.word(0, 1);
        x.word(1, 222);
        x.writer(0, 3, 50);
        x.writer(1, 2, 5);
        x.writer(0, 1, 50);
        return x;
    }

    private static void judging() {
        DearerByUse x = threeWriters();
        // Writer 2 pays 1, writer 1 can't pay 6, writer 0 pays 2.
        fill(x, 0, 2, 2, -1, 1);
        Checks.due("as told", x.judge(0), -1);
        fill(x, 0, 2, 1, -1, 1);
        Checks.due("0 paid otherwise", x.judge(0), 0);
        fill(x, 1, 1, 2, 0, 2);
        Checks.due("1 said nothing, which is not 0", x.judge(1), 1);
        fill(x, 2, 0, 2, -1, 2);
        Checks.due("2 paid otherwise", x.judge(2), 2);
        fill(x, 3, 2, 2, -1, -1);
        Checks.due("2 said something", x.judge(3), 2);
        x.set(4, 0, 0);
        x.set(3, 1, 3);
        fill(x, 3, 2, 1, 3, 0);
        Checks.due("what costs 0 was said", x.judge(3), -1);
        fill(x, 3, 2, 1, 3, -1);
        Checks.due("which is not -1", x.judge(3), 2);
    }

    private static void judgingFive() {
        DearerByUse x = new DearerByUse();
        x.word(0, 1);
        for (int i = 0; i < 5; i++) x.writer(0, i, i == 4 ? 0 : 9);
        fill(x, 0, 0, 1, 2, 3, 4, -1);
        Checks.due("all as told", x.judge(0), -1);
        fill(x, 0, 0, 1, 2, 3, 4, 0);
        Checks.due("the last is otherwise", x.judge(0), 4);
        Checks.due("no law's", x.whose(0), 0);
    }

    private static void judgingByBytes() {
        DearerByUse x = new DearerByUse();
        x.word(0, 1);
        x.writer(0, 0, 9999);
        x.set(0, 0, 199);
        fill(x, 0, 0, 200);
        Checks.due("a byte can't tell 200", x.judge(0), 0);
        fill(x, 0, 1, 200 + 65536);
        Checks.due("a short can, by its lowest bits", x.judge(0), -1);
        fill(x, 0, 2, 200 + 65536);
        Checks.due("an int has all bits", x.judge(0), 0);
        x.set(3, 0, 0);
        fill(x, 0, 0, 255);
        Checks.due("255 is -1 as a byte", x.judge(0), -1);
    }

    private static void refusals() {
        DearerByUse x = threeWriters();
        int[] sheets = {-1, 4, Integer.MIN_VALUE, Integer.MAX_VALUE};
        for (int sheet : sheets) {
            Checks.due("judge(" + sheet + ")", x.judge(sheet), -2);
            Checks.due("whose(" + sheet + ")", x.whose(sheet), -2);
        }
        Checks.due("judge(0)", x.judge(0), -11);
        Checks.due("whose(3)", x.whose(3), -11);
        fill(x, 0, 2, 2, -1);
        Checks.due("judge(0)", x.judge(0), -2);
        Checks.due("whose(0)", x.whose(0), -2);
        fill(x, 0, 2, 2, -1, 1, 0);
        Checks.due("judge(0)", x.judge(0), -2);
        Checks.due("whose(0)", x.whose(0), -2);
        x.sheet(0, -1, 3);
        Checks.due("judge(0)", x.judge(0), -11);
        int[][] fits = {{3, 0}, {-1, 0}, {0, -1}, {0, 10000}};
        for (int[] f : fits) Checks.due("fits(" + f[0] + ", " + f[1] + ")", x.fits(f[0], f[1]), -2);
    }

    private static void fits() {
        DearerByUse x = new DearerByUse();
        x.word(1, 1);
        x.word(0, 1);
        x.word(0, 23);
        x.word(0, 45);
        x.writer(0, 0, 0);
        Checks.due("fits(0, 0)", x.fits(0, 0), 0);
        Checks.due("fits(0, 1)", x.fits(0, 1), 2);
        Checks.due("fits(0, 2)", x.fits(0, 2), 4 + 8);
        Checks.due("fits(0, 3)", x.fits(0, 3), 0);
        Checks.ruled(x, "adds hour;worth 0;may 0;");
        x.set(2, 0, 10);
        Checks.due("neither purse nor may matter", x.fits(0, 22), 4 + 8);
        Checks.due("fits(0, 11)", x.fits(0, 11), 2);
        x.force(0);
        x.set(0, 0, 998);
        Checks.due("fits(0, 999)", x.fits(0, 999), 2);
        for (int i = 4; i < 10; i++) x.word(0, 88);
        Checks.due("the last words", x.fits(0, 3), 1023 - 15);
        x.set(4, 0, 9);
        x.rule(x.law(1, 9));
        x.set(0, 0, 999);
        Checks.due("a sum is at most 9999", x.fits(0, 9999), 0);
    }

    private static void fitsInItsTurn() {
        DearerByUse x = new DearerByUse();
        x.word(0, 1);
        x.writer(0, 5, 99);
        x.writer(0, 5, 99);
        x.writer(0, 4, 99);
        x.writer(0, 6, 99);
        Checks.due("writer 2 is first", x.fits(2, 1), 1);
        Checks.due("then writer 0", x.fits(0, 2), 1);
        Checks.due("then writer 1", x.fits(1, 3), 1);
        Checks.due("then writer 3", x.fits(3, 4), 1);
        Checks.due("not otherwise", x.fits(3, 3), 0);
        x.rule(x.law(3, 0));
        x.set(0, 0, 9);
        // At 4 it is USED 9 - 4, as 3: 3 + 3; at 5 then 6 - 1, as 3 again; behind that 6: 6 + 6.
        Checks.due("aged by 4 hours", x.fits(2, 6), 1);
        Checks.due("by an hour more", x.fits(0, 6), 1);
        Checks.due("and by a use", x.fits(1, 12), 1);
    }

    private static void whose() {
        DearerByUse x = threeWriters();
        x.law(0, 1);
        x.law(0, 2);
        x.law(2, 1);
        fill(x, 0, 2, 2, -1, 1);
        Checks.due("laws 0 and 1", x.whose(0), 3);
        fill(x, 0, 2, 3, -1, 2);
        Checks.due("law 2", x.whose(0), 4);
        x.rule(2);
        Checks.due("whichever rules", x.whose(0), 4);
        Checks.due("it changes nothing", x.count(3), 2);
        // FLAT of 1: writer 2 pays 0, an hour ages b, too; 222: 0 + 1 + 1; at 3 a is used 0 times again.
        fill(x, 0, 2, 0, 2, 0);
        Checks.due("law 3", x.whose(0), 8);
        fill(x, 0, 2, 0, 0, 0);
        Checks.due("none", x.whose(0), 0);
        DearerByUse y = new DearerByUse();
        for (int i = 0; i < 5; i++) y.law(i, i);
        y.sheet(0, 0, 0);
        Checks.due("all, if there is no writer", y.whose(0), 63);
        Checks.due("none is otherwise", y.judge(0), -1);
    }

    /** What a letter is USED by a seed, reckoned in longs. */
    private static int usedBy(long seed, int letter) {
        long z = seed & 0xffffffffL;
        for (int i = 0; i <= letter; i++) z = (z * 1103515245L + 12345L) & 0xffffffffL;
        return (int) ((z >> 10) % 20);
    }

    private static void drawn() {
        int[] seeds = {0, 1, 2, 5, -1, -77, 123456789, Integer.MAX_VALUE, Integer.MIN_VALUE};
        for (int letter = 0; letter < 8; letter++) {
            DearerByUse x = new DearerByUse();
            x.set(0, letter, 500);
            x.word(0, letter + 1);
            x.writer(0, 0, 9999);
            for (int seed : seeds) Checks.due("drawn(" + seed + ")", x.drawn(seed), 48 - usedBy(seed, letter));
            Checks.due("it changes nothing", x.told(letter, 0), 500);
        }
        Checks.due("no writer", new DearerByUse().drawn(3), 0);
        DearerByUse x = new DearerByUse();
        x.word(0, 1);
        x.writer(0, 0, 9999);
        Checks.ruled(x, "adds hour;worth 50-length;may hour<5;");
        Checks.due("drawn(5)", x.drawn(5), 48 - usedBy(5, 0));
        x.set(2, 0, 4);
        Checks.due("at its hour of now", x.drawn(5), 44 - usedBy(5, 0));
        x.rule(x.law(0, 9));
        Checks.due("by the law of now", x.drawn(5), 36 - usedBy(5, 0));
        x.set(2, 0, 5);
        Checks.due("chance at its hour of now", x.chance(5, 4, 0), 0);
        x.set(2, 0, 3);
        Checks.due("chance at its hour of now", x.chance(5, 4, 0), 1);
    }

    private static void chance() {
        int[] seeds = {0, 7, -10, Integer.MAX_VALUE - 3, Integer.MIN_VALUE};
        for (int purse = 0; purse <= 20; purse += 4) {
            DearerByUse x = new DearerByUse();
            x.word(0, 1);
            x.word(1, 2);
            x.writer(0, 0, purse);
            x.writer(1, 0, 15);
            for (int seed : seeds) {
                for (int n = 1; n <= 20; n++) {
                    int all = 0;
                    for (int i = 0; i < n; i++) {
                        if (usedBy(seed + (long) i, 0) < purse && usedBy(seed + (long) i, 1) < 15) all++;
                    }
                    long above = x.chance(seed, n, 0);
                    long below = x.chance(seed, n, 1);
                    Checks.due("above by below of " + n, above * n, below * all);
                    Checks.due("lowest terms", gcd(above, below), 1);
                    Checks.due("below is above 0", below > 0 ? 1 : 0, 1);
                }
            }
            Checks.due("it changes nothing", x.count(7), 0);
        }
        DearerByUse x = new DearerByUse();
        Checks.due("no writer: all say", x.chance(0, 20, 0), 1);
        Checks.due("no writer: all say", x.chance(0, 20, 1), 1);
        x.writer(0, 0, 0);
        Checks.due("never", x.chance(0, 20, 0), 0);
        Checks.due("never", x.chance(0, 20, 1), 1);
    }

    private static long gcd(long a, long b) {
        return b == 0 ? a : gcd(b, a % b);
    }

    private static void wrongChance() {
        DearerByUse x = new DearerByUse();
        int[][] wrong = {{0, 0}, {21, 0}, {-1, 0}, {1, 2}, {1, -1}, {Integer.MIN_VALUE, 0}, {Integer.MAX_VALUE, 1}};
        for (int[] w : wrong) Checks.due("chance(0, " + w[0] + ", " + w[1] + ")", x.chance(0, w[0], w[1]), DearerByUse.NO);
    }

    private static void images() {
        DearerByUse x = new DearerByUse();
        x.word(0, 12);
        x.writer(1, 2, 3);
        x.writer(3, 22, 33);
        x.law(4, 4);
        x.rule(1);
        x.set(0, 0, 5);
        x.set(0, 7, 9);
        Checks.text(x, "adds 3;worth 0;may 1;");
        x.force(1);
        Checks.due("back without an image", x.back(), -3);
        Checks.due("image()", x.image(), 2);
        for (int round = 0; round < 2; round++) {
            change(x);
            Checks.due("back()", x.back(), 2);
            int[] counts = {1, 2, 2, 1, 2 + round + 1, 1, 1, 14};
            for (int what = 0; what < 8; what++) Checks.due("count(" + what + ")", x.count(what), counts[what]);
            Checks.due("a", x.told(0, 0), 5);
            Checks.due("h", x.told(7, 0), 9);
            int[][] told = {{0, 1, 1}, {0, 2, 2}, {0, 3, 3}, {1, 1, 3}, {1, 2, 22}, {1, 3, 33}, {0, 4, 1}, {1, 4, 4},
                {1, 5, 4}, {0, 6, 0}, {0, 7, 2}, {2, 1, -2}, {2, 4, -2}, {1, 6, -2}};
            for (int[] t : told) Checks.due("told(" + t[0] + ", " + t[1] + ")", x.told(t[0], t[1]), t[2]);
            Checks.due("costs", x.costs(0, 0), 6);
            x.text();
        }
        x.writer(0, 0, 0);
        Checks.due("another image", x.image(), 3);
        x.set(2, 2, 9);
        Checks.due("back()", x.back(), 3);
        Checks.due("its hour", x.told(2, 2), 0);
    }

    private static void change(DearerByUse x) {
        x.set(0, 0, 77);
        x.set(0, 3, 77);
        for (int what = 1; what <= 3; what++) {
            x.set(what, 0, 0);
            x.set(what, 1, 0);
        }
        x.set(4, 0, 9);
        x.set(4, 1, 9);
        x.word(2, 888);
        x.writer(0, 0, 0);
        x.writer(0, 0, 0);
        x.law(5, 5);
        x.rule(2);
        Checks.text(x, "adds 4;worth 0;may 1;");
        x.force(2);
        x.feed('q');
    }

    private static void whatNoImageKeeps() {
        DearerByUse x = new DearerByUse();
        x.sheet(0, 2, 1);
        x.image();
        x.cell(0, 0, 5);
        x.sheet(1, 0, 3);
        x.writer(0, 0, 4);
        Checks.text(x, "adds 9;worth 0;may 1;");
        x.feed('a');
        Checks.due("back()", x.back(), 0);
        Checks.due("texts stay", x.count(4), 2);
        Checks.due("the tape stays", x.count(5), 1);
        Checks.due("sheets stay", x.cell(1, 2, 0), 1);
        Checks.due("force(1)", x.force(1), 0);
        Checks.due("back() again", x.back(), 0);
        Checks.due("text 0 is the rule", x.count(6), 0);
        // Words and laws that come again have numbers anew.
        x.image();
        Checks.due("word", x.word(0, 1), 0);
        Checks.due("law", x.law(1, 7), 1);
        x.back();
        Checks.due("word", x.word(3, 8765), 0);
        Checks.due("its thing", x.told(0, 6), 3);
        Checks.due("its length", x.told(0, 7), 4);
        Checks.due("law", x.law(2, 3), 1);
        Checks.due("its kind", x.told(1, 5), 2);
        Checks.due("its number", x.told(1, 4), 3);
    }

    private static void counts() {
        DearerByUse x = new DearerByUse();
        Checks.due("count(-1)", x.count(-1), -2);
        Checks.due("count(8)", x.count(8), -2);
        x.word(0, 1);
        x.word(0, 1);
        x.writer(0, 0, 0);
        x.law(0, 0);
        x.law(0, 0);
        x.rule(2);
        Checks.text(x, "adds 0;worth 0;may 1;");
        Checks.text(x, "adds 0;worth 0;may 1;");
        x.force(2);
        Checks.feed(x, "four");
        for (int letter = 0; letter < 8; letter++) x.set(0, letter, 999);
        int[] counts = {2, 1, 3, 2, 3, 4, 2, 7992};
        for (int what = 0; what < 8; what++) Checks.due("count(" + what + ")", x.count(what), counts[what]);
    }
}
