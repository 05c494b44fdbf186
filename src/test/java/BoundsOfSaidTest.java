/** Every sentence of promises 24 to 31, and of Terms 2 behind them, that names a bound. */
public final class BoundsOfSaidTest {
    private static final String FIVE_WRITERS = "writer(0,0,9) writer(0,1,9) writer(0,2,9) writer(0,3,9) writer(0,4,9)";
    private static final String PAY_USED = "set(4,0,0) 'adds 0;worth 0;may 1;' force(1)";

    public static void main(String[] args) {
        judge();
        judgeNobody();
        fits();
        fitsAtTheMost();
        whose();
        drawn();
        chance();
        chanceWraps();
        image();
        back();
        backMakesRoom();
        count();
        Script.end("BoundsOfSaidTest", 24, 31);
    }

    private static void judge() {
        Script.holds("P24 a SHEET is 0 .. 3", "sheet(0,0,0) sheet(3,2,0) judge(-1)=-2 judge(4)=-2 judge(2147483647)=-2",
            "judge(-2147483648)=-2 judge(0)=-1 judge(3)=-1");
        Script.holds("P24 -11 where it is missing", "judge(0)=-11 judge(3)=-11 sheet(0,0,0) judge(0)=-1 sheet(0,-1,0)",
            "judge(0)=-11 writer(0,0,0) judge(0)=-11");
        Script.holds("P24 BAD: one too few, one too many", "sheet(0,2,1) judge(0)=-2 writer(0,0,0) judge(0)=0",
            "sheet(0,2,0) judge(0)=-2 sheet(0,2,2) judge(0)=-2 writer(1,1,1) cell(0,0,-1) cell(0,1,-1) judge(0)=-1",
            "sheet(0,2,40) judge(0)=-2");
        Script.holds("P24 the first for whom it is otherwise", "word(0,1)", FIVE_WRITERS, "sheet(0,2,5) judge(0)=0",
            "cell(0,0,1) judge(0)=1 cell(0,1,2) judge(0)=2 cell(0,2,3) judge(0)=3 cell(0,3,4) judge(0)=4 cell(0,4,5)",
            "judge(0)=-1 cell(0,3,5) judge(0)=3 cell(0,0,2) judge(0)=0");
        Script.holds("P24 -1: SAID nothing, and not 0", "writer(0,0,9) sheet(0,2,1) judge(0)=0 cell(0,0,-1) judge(0)=-1",
            "cell(0,0,-2) judge(0)=0 cell(0,0,1) judge(0)=0");
        Script.holds("P24 0: SAID something for 0, and not -1", "set(4,0,0) word(0,1) writer(0,0,9) sheet(0,2,1)",
            "judge(0)=-1 cell(0,0,-1) judge(0)=0");
        Script.holds("P24 one more or less is otherwise", "word(0,1) writer(0,0,9) sheet(0,2,1) cell(0,0,2) judge(0)=0",
            "cell(0,0,1) judge(0)=-1");
        Script.holds("P24 9999 by shorts, and by ints", "word(0,1) writer(0,0,9999) law(1,9) rule(1) set(0,0,908)",
            "'adds 2;worth 0;may 1;' force(1) sheet(0,1,1) cell(0,0,9999) judge(0)=-1 sheet(1,2,1) cell(1,0,9999)",
            "judge(1)=-1 cell(1,0,75535) judge(1)=0 cell(0,0,75535) judge(0)=-1 sheet(2,0,1) cell(2,0,9999) judge(2)=0");
        Script.holds("P24 127 is the most of bytes", PAY_USED, "word(0,1) writer(0,0,9999) set(0,0,127) sheet(0,0,1)",
            "cell(0,0,127) judge(0)=-1 set(0,0,128) cell(0,0,128) judge(0)=0");
        Script.holds("P24 -1 by bytes and shorts, from their lowest bits", "writer(0,0,9) sheet(0,0,1) cell(0,0,255)",
            "judge(0)=-1 cell(0,0,65535) judge(0)=-1 cell(0,0,127) judge(0)=0 sheet(0,1,1) cell(0,0,65535) judge(0)=-1",
            "cell(0,0,255) judge(0)=0 sheet(0,2,1) cell(0,0,65535) judge(0)=0 cell(0,0,-1) judge(0)=-1");
    }

    private static void judgeNobody() {
        Script.holds("P24 NONE, if there is no WRITER", "sheet(0,0,0) judge(0)=-1 word(0,1) judge(0)=-1");
        Script.holds("P26 all LAWS, if there is no WRITER", "sheet(0,0,0) whose(0)=1 law(0,0) law(1,1) whose(0)=7",
            "law(2,2) law(3,3) law(4,4) whose(0)=63");
    }

    private static void fits() {
        Script.holds("P25 a WRITER is one of those there are", "fits(0,0)=-2 word(0,1)", FIVE_WRITERS, "fits(-1,1)=-2",
            "fits(5,1)=-2 fits(2147483647,1)=-2 fits(-2147483648,1)=-2 fits(0,1)=1 fits(4,5)=1 fits(4,4)=0");
        Script.holds("P25 a sum is 0 .. 9999", "word(0,1) writer(0,0,0) fits(0,-1)=-2 fits(0,10000)=-2",
            "fits(0,2147483647)=-2 fits(0,0)=0 fits(0,9999)=0 set(4,0,0) fits(0,0)=1");
        Script.holds("P25 a sum of 9999", "word(0,1) writer(0,0,0) law(1,9) rule(1) set(0,0,908) 'adds 2;worth 0;may 1;'",
            "force(1) fits(0,9999)=1 fits(0,9998)=0");
        Script.holds("P25 just the sum, no more or less", "word(0,123) writer(0,0,99) fits(0,2)=0 fits(0,3)=1 fits(0,4)=0");
        Script.holds("P25 of its THING alone", "word(0,1) word(1,2) word(2,3) word(1,4) writer(1,0,9) fits(0,1)=10",
            "set(1,0,0) fits(0,1)=1 set(1,0,3) fits(0,1)=0");
        Script.holds("P25 no WORD", "writer(0,0,9) fits(0,0)=0 fits(0,1)=0");
        Script.holds("P25 whatever PURSE and may tell", "word(0,1) writer(0,0,0) 'adds 0;worth 0;may 0;' force(1)",
            "fits(0,1)=1");
    }

    private static void fitsAtTheMost() {
        Script.holds("P25 the bit of the tenth WORD", "word(0,1) word(0,2) word(0,3) word(0,4) word(0,5) word(0,6)",
            "word(0,7) word(0,8) word(0,12) word(0,34) writer(0,0,9) fits(0,1)=255 fits(0,2)=768 set(0,0,1) fits(0,2)=513",
            "fits(0,3)=256");
        Script.holds("P25 when its turn comes: those of its HOUR with a lower number have written", "word(0,1)",
            "writer(0,5,9) writer(0,5,9) fits(0,1)=1 fits(1,2)=1 fits(1,1)=0 set(2,0,6) fits(0,2)=1 fits(1,1)=1");
        Script.holds("P25 when its turn comes: HOURS have passed", "word(0,1) law(3,0) rule(1) set(0,0,26) writer(0,0,0)",
            "writer(0,23,0) fits(0,48)=1 fits(1,6)=1 set(2,1,22) fits(1,6)=1 set(2,1,21) fits(1,6)=1 set(2,1,20)",
            "fits(1,12)=1");
        Script.holds("P25 at its HOUR", "word(0,1) writer(0,23,0) 'adds hour;worth 0;may 1;' force(1) fits(0,24)=1",
            "set(2,0,0) fits(0,1)=1");
        Script.holds("P25 999 at most", "word(0,111) writer(0,0,0) set(4,0,0) set(0,0,998) fits(0,2996)=1 set(0,0,999)",
            "fits(0,2997)=1 told(0,0)=999");
    }

    private static void whose() {
        Script.holds("P26 a SHEET is 0 .. 3", "sheet(0,0,0) sheet(3,2,0) whose(-1)=-2 whose(4)=-2 whose(2147483647)=-2",
            "whose(-2147483648)=-2 whose(0)=1 whose(3)=1");
        Script.holds("P26 -11 where it is missing", "whose(0)=-11 whose(3)=-11 sheet(0,0,0) whose(0)=1 sheet(0,-1,0)",
            "whose(0)=-11");
        Script.holds("P26 BAD: one too few, one too many", "sheet(0,2,1) whose(0)=-2 writer(0,0,0) whose(0)=0",
            "sheet(0,2,0) whose(0)=-2 sheet(0,2,2) whose(0)=-2 sheet(0,2,40) whose(0)=-2");
        Script.holds("P26 the bits of the first and the last of six", "law(0,2) law(0,3) law(0,4) law(0,5) law(0,6)",
            "word(0,1) writer(0,0,9) sheet(0,2,1) whose(0)=0 cell(0,0,1) whose(0)=1 cell(0,0,6) whose(0)=32 cell(0,0,5)",
            "whose(0)=16 cell(0,0,7) whose(0)=0 set(4,0,6) cell(0,0,6) whose(0)=33 count(3)=0");
        Script.holds("P26 all must be as the SHEET tells", "law(0,2) word(0,1)", FIVE_WRITERS, "sheet(0,2,5) cell(0,0,1)",
            "cell(0,1,2) cell(0,2,3) cell(0,3,4) whose(0)=0 cell(0,4,5) whose(0)=1 cell(0,0,2) whose(0)=0");
        Script.holds("P26 none SAYS anything", "law(0,2) law(0,0) word(0,1) writer(0,0,0) sheet(0,2,1) cell(0,0,-1)",
            "whose(0)=3 cell(0,0,0) whose(0)=4");
        Script.holds("P26 by its own AGES", "law(3,1) word(0,1) writer(0,23,9) set(0,0,23) sheet(0,2,1) cell(0,0,1)",
            "whose(0)=2 set(3,0,99) cell(0,0,24) whose(0)=1");
    }

    private static void drawn() {
        String a = PAY_USED + " word(0,1) writer(0,0,9999) set(0,0,999)";
        String h = PAY_USED + " word(0,8) writer(0,0,9999) set(0,7,999)";
        Script.holds("P27 the first LETTER", a, "drawn(0)=-12 drawn(1)=-3 drawn(2)=-15 drawn(12345)=-9 drawn(99999)=-16",
            "told(0,0)=999");
        Script.holds("P27 the last LETTER", h, "drawn(0)=-7 drawn(1)=-11 drawn(2)=-15 drawn(12345)=-3 drawn(99999)=-14",
            "told(7,0)=999");
        Script.holds("P27 SEEDS below 0", a, "drawn(-1)=-4 drawn(-2)=-12 drawn(-2147483648)=-4 drawn(-2147483647)=-15");
        Script.holds("P27 SEEDS below 0 to the last LETTER", h, "drawn(-1)=-3 drawn(-2)=-16 drawn(-2147483648)=-15",
            "drawn(-2147483647)=-19");
        Script.holds("P27 the greatest SEEDS", a, "drawn(2147483647)=-12 drawn(2147483646)=-4");
        Script.holds("P27 the greatest SEEDS to the last LETTER", h, "drawn(2147483647)=-11 drawn(2147483646)=-8");
        Script.holds("P27 0 .. 19", a, "drawn(10)=0 drawn(29)=0 drawn(-22)=0 drawn(12)=-19 drawn(23)=-19 drawn(-9)=-19");
        Script.holds("P27 0 .. 19 of the last LETTER", h, "drawn(16)=0 drawn(34)=0 drawn(-23)=0 drawn(3)=-19",
            "drawn(38)=-19 drawn(-15)=-19");
        Script.holds("P27 all LETTERS between", PAY_USED, "word(0,2) word(1,3) writer(0,0,9999) drawn(0)=-9 drawn(1)=-8",
            "set(1,0,1) drawn(0)=-13 drawn(1)=-9 word(2,4) set(1,0,2) drawn(0)=-7 drawn(1)=-10 word(3,5) set(1,0,3)",
            "drawn(0)=-9 drawn(1)=-11");
        Script.holds("P27 the others, too", PAY_USED, "word(0,6) word(1,7) writer(0,0,9999) drawn(0)=-7 drawn(1)=-9",
            "set(1,0,1) drawn(0)=-4 drawn(1)=-17");
        Script.holds("P27 ALL GOOD of a DAY from then on", "word(0,1) writer(0,0,99) writer(0,23,99) drawn(0)=71",
            "set(3,0,12) drawn(0)=36 rule(0) law(3,0) rule(1) drawn(0)=49");
        Script.holds("P27 at HOURS of now", "word(0,1) writer(0,5,9999) 'adds 0;worth 50;may hour=5;' force(1)",
            "drawn(0)=37 set(2,0,6) drawn(0)=0");
        Script.holds("P27 by THE LAW of now", "word(0,1) writer(0,0,9999) law(0,9) rule(1) drawn(0)=28 rule(0)",
            "drawn(0)=36");
        Script.holds("P27 of nobody", "drawn(0)=0 drawn(-1)=0 word(0,1) drawn(2147483647)=0");
    }

    private static void chance() {
        String eleven = PAY_USED + " word(0,1) writer(0,0,11)";
        Script.holds("P28 n is 1 .. 20", eleven, "chance(0,0,0)=-4611686018427387904 chance(0,21,0)=-4611686018427387904",
            "chance(0,-1,1)=-4611686018427387904 chance(0,2147483647,0)=-4611686018427387904",
            "chance(0,-2147483648,0)=-4611686018427387904 chance(0,1,0)=0 chance(0,1,1)=1 chance(1,1,0)=1 chance(1,1,1)=1",
            "chance(0,20,0)=11 chance(0,20,1)=20");
        Script.holds("P28 part is 0 or 1", "chance(0,1,-1)=-4611686018427387904 chance(0,1,2)=-4611686018427387904",
            "chance(0,20,2147483647)=-4611686018427387904 chance(0,1,0)=1 chance(0,1,1)=1");
        Script.holds("P28 in lowest terms", eleven, "chance(0,2,0)=1 chance(0,2,1)=2 chance(0,3,0)=1 chance(0,3,1)=3",
            "chance(0,4,0)=1 chance(0,4,1)=2 chance(0,18,0)=5 chance(0,18,1)=9 chance(0,19,0)=11 chance(0,19,1)=19",
            "chance(1,20,0)=3 chance(1,20,1)=5 chance(0,16,0)=9 chance(0,16,1)=16");
        Script.holds("P28 none of them: 0 by 1", PAY_USED, "writer(0,0,11) chance(0,20,0)=0 chance(0,20,1)=1",
            "chance(7,1,0)=0 chance(7,1,1)=1");
        Script.holds("P28 all of them: 1 by 1", PAY_USED, "word(0,1) writer(0,0,19) chance(0,20,0)=1 chance(0,20,1)=1",
            "set(3,0,18) chance(0,20,0)=19 chance(0,20,1)=20");
        Script.holds("P28 one of them", PAY_USED, "word(0,1) writer(0,0,0) chance(0,20,0)=1 chance(0,20,1)=20",
            "chance(10,1,0)=1 chance(11,1,0)=0");
        Script.holds("P28 all WRITERS must SAY something", eleven, "writer(0,0,11) chance(1,1,0)=1 writer(1,0,9)",
            "chance(1,1,0)=0 word(1,2) chance(1,1,0)=1 set(3,2,7) chance(1,1,0)=0 set(3,2,8) chance(1,1,0)=1");
        Script.holds("P28 at HOURS of now", "word(0,1) writer(0,5,9999) 'adds 0;worth 50;may hour=5;' force(1)",
            "chance(0,20,0)=1 set(2,0,6) chance(0,20,0)=0");
        Script.holds("P28 by THE LAW of now", "word(0,1) writer(0,0,4) law(0,9) rule(1) chance(1,1,0)=0 rule(0)",
            "chance(1,1,0)=1");
        Script.holds("P28 without WRITERS", "chance(0,1,0)=1 chance(0,1,1)=1 chance(5,20,0)=1 chance(5,20,1)=1");
        Script.holds("P28 USED stays", eleven, "set(0,0,999) chance(0,20,0)=11 told(0,0)=999");
    }

    private static void chanceWraps() {
        String eleven = PAY_USED + " word(0,1) writer(0,0,11)";
        Script.holds("P28 behind the greatest SEED comes the least", eleven, "chance(2147483647,1,0)=0",
            "chance(2147483647,2,0)=1 chance(2147483647,2,1)=2 chance(-2147483648,1,0)=1 chance(2147483647,20,0)=3",
            "chance(2147483647,20,1)=5 chance(2147483640,20,0)=3 chance(2147483640,20,1)=5");
        Script.holds("P28 SEEDS through 0", eleven, "chance(-10,20,0)=11 chance(-10,20,1)=20 chance(-1,1,0)=1",
            "chance(-1,2,0)=1 chance(-1,2,1)=2");
    }

    private static void image() {
        Script.holds("P29 how many WRITERS", "image()=0 writer(0,0,0) image()=1 writer(0,0,0) writer(0,0,0) writer(0,0,0)",
            "writer(0,0,0) image()=5 back()=5");
        Script.holds("P29 the last IMAGE is kept alone", "set(0,0,1) image() set(0,0,2) image() set(0,0,3) back()=0",
            "told(0,0)=2 back()=0 told(0,0)=2");
        Script.holds("P29 an IMAGE is not what comes behind it", "writer(1,2,3) law(2,4) image()=1 set(0,7,5) set(1,0,0)",
            "set(2,0,0) set(3,0,0) set(4,0,9) set(4,1,9) rule(1) back()=1 told(7,0)=0 told(0,1)=1 told(0,2)=2 told(0,3)=3",
            "told(0,4)=1 told(1,4)=4 count(3)=0");
        Script.holds("P29 all stays", "set(0,0,9) writer(1,2,3) image()=1 told(0,0)=9 told(0,1)=1 told(0,2)=2 told(0,3)=3",
            "count(1)=1");
    }

    private static void back() {
        Script.holds("P30 STATE: there is none", "back()=-3 writer(0,0,0) back()=-3 count(1)=1 image()=1 back()=1");
        Script.holds("P30 it can be laid back twice", "image()=0 writer(0,0,0) back()=0 count(1)=0 set(0,0,5)",
            "writer(0,0,0) back()=0 count(1)=0 count(7)=0");
        Script.holds("P30 USED of the first and the last LETTER", "set(0,0,1) set(0,7,999) image() set(0,0,999)",
            "set(0,7,0) back()=0 told(0,0)=1 told(7,0)=999 count(7)=1000");
        Script.holds("P30 THINGS, HOURS, PURSES of the first and the last WRITER", "writer(3,23,9999) writer(0,0,1)",
            "writer(0,0,2) writer(0,0,3) writer(2,22,222) image()=5 set(1,0,0) set(2,0,0) set(3,0,0) set(1,4,0)",
            "set(2,4,0) set(3,4,0) back()=5 told(0,1)=3 told(0,2)=23 told(0,3)=9999 told(4,1)=2 told(4,2)=22",
            "told(4,3)=222");
        Script.holds("P30 NUMBERS of the first and the last LAW", "law(1,1) law(1,2) law(1,3) law(1,4) law(5,9) image()",
            "set(4,0,7) set(4,5,7) back()=0 told(0,4)=1 told(5,4)=9 told(5,5)=5 count(2)=6");
        Script.holds("P30 THE LAW, THE RULE", "law(1,1) rule(1) 'adds 1;worth 0;may 1;' force(1) image() law(2,2) rule(2)",
            "'adds 2;worth 0;may 1;' force(2) back()=0 count(3)=1 count(6)=1 word(0,1) costs(0,0)=2");
        Script.holds("P30 what a WRITER chose", "word(0,1) writer(0,9,9) image() choose(0)=48 told(0,2)=0 back()=1",
            "told(0,2)=9");
        Script.holds("P30 what was written and what passed", "word(0,1) set(0,1,9) law(3,0) rule(1) image() write(0,0)",
            "pass(3) count(7)=6 back()=0 count(7)=9 told(0,0)=0 told(1,0)=9");
        Script.holds("P30 TEXTS, THE TAPE and SHEETS go on", "image() 'adds 7;worth 0;may 1;'=1 feed(97) sheet(0,0,2)",
            "back()=0 count(4)=2 count(5)=1 cell(0,1,0)=1 word(0,1) force(1)=0 costs(0,0)=8");
        Script.holds("P30 SHEETS are as they came to be, not as they were", "sheet(0,2,3) sheet(1,0,1) image()",
            "cell(0,2,5) sheet(1,-1,0) back()=0 writers(0,2,0,1)=1 told(0,3)=5 cell(1,0,0)=-11");
        Script.holds("P30 THE TAPE is not as it was", "feed(97) image() text()=-100 back()=0 count(5)=0");
    }

    private static void backMakesRoom() {
        Script.holds("P30 WORDS that came since go", "word(1,11) image() word(2,222) word(3,3) count(0)=3 back()=0",
            "count(0)=1 told(1,6)=-2 costs(1,0)=-2 told(0,6)=1 word(0,4)=1 told(1,6)=0 told(1,7)=1");
        Script.holds("P30 there is room again for ten WORDS", "image() word(0,1) word(0,1) word(0,1) word(0,1) word(0,1)",
            "word(0,1) word(0,1) word(0,1) word(0,1) word(0,1)=9 word(0,1)=-4 back()=0 word(0,2)=0 word(0,2) word(0,2)",
            "word(0,2) word(0,2) word(0,2) word(0,2) word(0,2) word(0,2) word(0,2)=9 word(0,2)=-4 costs(9,0)=1");
        Script.holds("P30 WRITERS that came since go", "writer(1,1,1) image()=1 writer(2,2,2) writer(2,2,2) writer(2,2,2)",
            "writer(2,2,2)=4 writer(2,2,2)=-4 back()=1 count(1)=1 told(1,1)=-2 day(1,0)=-100000 writer(3,3,3)=1",
            "told(1,1)=3");
        Script.holds("P30 LAWS that came since go", "law(1,1) image() law(2,2) law(3,3) law(4,4) law(5,5)=5 law(0,0)=-4",
            "back()=0 count(2)=2 told(2,5)=-2 rule(2)=-2 taken(2,0)=-11 law(5,9)=2 told(2,5)=5 told(2,4)=9");
    }

    private static void count() {
        Script.holds("P31 what is 0 .. 7", "count(-1)=-2 count(8)=-2 count(2147483647)=-2 count(-2147483648)=-2",
            "count(0)=0 count(7)=0");
        Script.holds("P31 0 WORDS", "word(0,1) count(0)=1 word(0,1) word(0,1) word(0,1) word(0,1) word(0,1) word(0,1)",
            "word(0,1) word(0,1) word(0,1) count(0)=10 word(0,1)=-4 count(0)=10");
        Script.holds("P31 1 WRITERS", FIVE_WRITERS, "count(1)=5 writer(0,0,0)=-4 count(1)=5");
        Script.holds("P31 2 LAWS, 3 THE LAW", "count(2)=1 law(0,0) law(0,0) law(0,0) law(0,0) law(0,0) count(2)=6",
            "count(3)=0 rule(5) count(3)=5");
        Script.holds("P31 4 TEXTS, 6 THE RULE", "count(4)=1 'adds 0;worth 0;may 0;' 'adds 0;worth 0;may 0;'",
            "'adds 0;worth 0;may 0;' 'adds 0;worth 0;may 0;' 'adds 0;worth 0;may 0;' count(4)=6 count(6)=0 force(5)",
            "count(6)=5 count(4)=6");
        Script.holds("P31 5 bytes of THE TAPE", "count(5)=0 feed(0) count(5)=1 feed(0) count(5)=2 feed(256) count(5)=2",
            "text() count(5)=0");
        Script.holds("P31 7 USED of all LETTERS", "set(0,0,1) set(0,7,2) count(7)=3 set(0,0,999) set(0,1,999)",
            "set(0,2,999) set(0,3,999) set(0,4,999) set(0,5,999) set(0,6,999) set(0,7,999) count(7)=7992");
    }
}
