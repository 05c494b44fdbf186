/** Every sentence of promises 1 to 14 that names a bound: the last that is taken and the first that is refused. */
public final class BoundsOfLettersTest {
    private static final String TEN_WORDS = "word(0,1)=0 word(1,2)=1 word(2,3)=2 word(3,4)=3 word(0,5)=4 word(0,6)=5 word(0,7)=6"
        + " word(0,8)=7 word(0,88)=8 word(3,123456)=9";
    private static final String FIVE_WRITERS = "writer(0,0,0)=0 writer(1,1,1)=1 writer(2,2,2)=2 writer(3,3,3)=3 writer(3,23,9999)=4";
    private static final String SIX_LAWS = "law(0,0)=1 law(1,1)=2 law(2,2)=3 law(3,3)=4 law(5,9)=5";

    public static void main(String[] args) {
        newObject();
        set();
        told();
        word();
        writer();
        law();
        rule();
        feed();
        text();
        force();
        costs();
        write();
        pass();
        cheapest();
        Script.end("BoundsOfLettersTest", 1, 14);
    }

    private static void newObject() {
        Script.holds("P1 LAW 0, a LAW of NUMBER 1, is there at first, and THE LAW", "count(2)=1 count(3)=0 told(0,5)=0",
            "told(0,4)=1 told(1,4)=-2 told(1,5)=-2 rule(1)=-2 rule(0)=0");
        Script.holds("P1 no WORDS", "count(0)=0 told(0,6)=-2 told(0,7)=-2 costs(0,0)=-2 write(0,0)=-2 cheapest(0,0,0)=-1");
        Script.holds("P1 no WRITERS", "count(1)=0 told(0,1)=-2 told(0,2)=-2 told(0,3)=-2 day(0,0)=-100000",
            "when(0,0)=-100000 choose(0)=-100000 fits(0,0)=-2 image()=0");
        Script.holds("P1 USED 0 at first", "told(0,0)=0 told(1,0)=0 told(2,0)=0 told(3,0)=0 told(4,0)=0 told(5,0)=0",
            "told(6,0)=0 told(7,0)=0 count(7)=0");
        Script.holds("P1 THE TAPE is empty, TEXT 0 is THE RULE", "count(5)=0 count(4)=1 count(6)=0 force(1)=-2 force(0)=0",
            "text()=-100");
        Script.holds("P1 all SHEETS are missing", "cell(0,0,0)=-11 cell(1,0,0)=-11 cell(2,0,0)=-11 cell(3,0,0)=-11");
        Script.holds("P1 there is no IMAGE", "back()=-3");
        Script.holds("P1 a DAY of nobody", "all(0)=0 all(1)=0 all(2)=0 all(3)=0 rest()=1 turns(0)=0 turns(1)=0 best(0)=0",
            "best(1)=0 best(2)=0 worst(1,0)=0 worst(20,1)=0 burn(0,1)=0 burn(7,20)=0 drawn(0)=0 chance(0,20,0)=1",
            "chance(0,20,1)=1");
        DearerByUse one = new DearerByUse();
        DearerByUse other = new DearerByUse();
        String busy = "word(0,1) writer(0,0,9) law(1,1) rule(1) set(0,0,9) 'adds 9;worth 9;may 1;' force(1) feed(97) sheet(0,0,3) image()";
        Script.go(one, "P1 another object", busy);
        Script.go(other, "P1 an object has its own", "count(0)=0 count(1)=0 count(2)=1 count(3)=0 count(4)=1 count(5)=0 count(6)=0",
            "count(7)=0 back()=-3 cell(0,0,0)=-11");
        DearerByUse old = new DearerByUse();
        for (int call = 1; call < 512; call++) old.set(0, 7, call);
        Checks.due("P1 the 512th call of an object", old.told(7, 0), 511);
    }

    private static void set() {
        Script.holds("P2 a LETTER is 0 .. 7", "set(0,0,1)=0 set(0,7,2)=0 set(0,-1,3)=-2 set(0,8,4)=-2 told(0,0)=1",
            "told(7,0)=2 count(7)=3");
        Script.holds("P2 USED is 0 .. 999", "set(0,3,999)=0 set(0,3,0)=999 set(0,3,998)=0 set(0,3,-1)=-2 set(0,3,1000)=-2",
            "told(3,0)=998 set(0,3,2147483647)=-2 set(0,3,-2147483648)=-2 told(3,0)=998");
        Script.holds("P2 a WRITER is one of those there are", "set(1,0,0)=-2 set(2,0,0)=-2 set(3,0,0)=-2", FIVE_WRITERS,
            "set(1,4,0)=3 set(2,4,0)=23 set(3,4,0)=9999 set(1,5,0)=-2 set(2,5,0)=-2 set(3,5,0)=-2 set(1,-1,0)=-2",
            "set(2,-1,0)=-2 set(3,-1,0)=-2 set(1,0,1)=0 set(2,0,1)=0 set(3,0,1)=0 told(0,1)=1 told(0,2)=1 told(0,3)=1",
            "told(4,1)=0");
        Script.holds("P2 THING is 0 .. 3", "writer(1,1,1) set(1,0,0)=1 set(1,0,3)=0 set(1,0,4)=-2 set(1,0,-1)=-2",
            "told(0,1)=3 told(0,2)=1 told(0,3)=1");
        Script.holds("P2 HOUR is 0 .. 23", "writer(1,1,1) set(2,0,0)=1 set(2,0,23)=0 set(2,0,24)=-2 set(2,0,-1)=-2",
            "told(0,2)=23 told(0,1)=1 told(0,3)=1");
        Script.holds("P2 PURSE is 0 .. 9999", "writer(1,1,1) set(3,0,0)=1 set(3,0,9999)=0 set(3,0,10000)=-2 set(3,0,-1)=-2",
            "told(0,3)=9999 told(0,1)=1 told(0,2)=1");
        Script.holds("P2 a LAW is one of those there are", "set(4,0,2)=1 set(4,1,0)=-2", SIX_LAWS, "set(4,5,0)=9",
            "set(4,6,0)=-2 set(4,-1,0)=-2 set(4,1,5)=0 told(0,4)=2 told(1,4)=5 told(5,4)=0 told(5,5)=5");
        Script.holds("P2 NUMBER is 0 .. 9", "set(4,0,0)=1 set(4,0,9)=0 set(4,0,10)=-2 set(4,0,-1)=-2 told(0,4)=9",
            "told(0,5)=0");
        Script.holds("P2 what is 0 .. 4", "writer(1,1,1) word(1,1) set(-1,0,0)=-2 set(5,0,0)=-2 set(6,0,0)=-2",
            "set(7,0,0)=-2 set(2147483647,0,0)=-2 set(-2147483648,0,0)=-2");
        Script.holds("P2 what it was, if it becomes the same", "set(0,0,0)=0 set(4,0,1)=1 set(4,0,1)=1");
    }

    private static void told() {
        Script.holds("P3 a LETTER is 0 .. 7", "set(0,0,999) set(0,7,998) told(0,0)=999 told(7,0)=998 told(8,0)=-2",
            "told(-1,0)=-2");
        Script.holds("P3 a WRITER is one of those there are", FIVE_WRITERS, "told(0,1)=0 told(0,2)=0 told(0,3)=0",
            "told(4,1)=3 told(4,2)=23 told(4,3)=9999 told(5,1)=-2 told(5,2)=-2 told(5,3)=-2 told(-1,1)=-2 told(-1,2)=-2",
            "told(-1,3)=-2 told(1,1)=1 told(2,2)=2");
        Script.holds("P3 a LAW is one of those there are", SIX_LAWS, "told(0,4)=1 told(0,5)=0 told(5,4)=9 told(5,5)=5",
            "told(6,4)=-2 told(6,5)=-2 told(-1,4)=-2 told(-1,5)=-2 told(1,4)=0 told(4,5)=3");
        Script.holds("P3 a WORD is one of those there are", TEN_WORDS, "told(0,6)=0 told(0,7)=1 told(9,6)=3 told(9,7)=6",
            "told(10,6)=-2 told(10,7)=-2 told(-1,6)=-2 told(-1,7)=-2 told(8,7)=2");
        Script.holds("P3 what is 0 .. 7", "word(0,1) writer(0,0,0) told(0,-1)=-2 told(0,8)=-2 told(0,2147483647)=-2",
            "told(0,-2147483648)=-2");
    }

    private static void word() {
        Script.holds("P4 a THING is 0 .. 3", "word(0,1)=0 word(3,1)=1 word(-1,1)=-2 word(4,1)=-2 count(0)=2 told(0,6)=0",
            "told(1,6)=3");
        Script.holds("P4 1 LETTER at least", "word(0,0)=-2 word(0,-1)=-2 word(0,-8)=-2 count(0)=0 word(0,1)=0 word(0,8)=1",
            "told(1,7)=1");
        Script.holds("P4 6 LETTERS at most", "word(0,111111)=0 word(0,888888)=1 word(0,1111111)=-2 word(0,1111118)=-2",
            "word(0,8888888)=-2 word(0,11111111)=-2 word(0,111111111)=-2 word(0,1111111111)=-2 count(0)=2 told(0,7)=6",
            "told(1,7)=6");
        Script.holds("P4 each of these lengths", "word(0,1) word(0,12) word(0,123) word(0,1234) word(0,12345)",
            "word(0,123456) told(0,7)=1 told(1,7)=2 told(2,7)=3 told(3,7)=4 told(4,7)=5 told(5,7)=6 costs(4,0)=5",
            "costs(5,0)=6");
        Script.holds("P4 1 for a, .. 8 for h", "word(0,9)=-2 word(0,10)=-2 word(0,19)=-2 word(0,91)=-2 word(0,101)=-2",
            "word(0,109)=-2 word(0,911111)=-2 word(0,111119)=-2 word(0,111110)=-2 word(0,100000)=-2 word(0,888889)=-2",
            "word(0,888890)=-2 word(0,901)=-2 word(0,2147483647)=-2 word(0,-2147483648)=-2 count(0)=0 word(0,1)=0",
            "word(0,8)=1 set(0,0,10) set(0,7,100) costs(0,0)=11 costs(1,0)=101");
        Script.holds("P4 the first is the highest", "word(0,18)=0 word(0,811)=1 'adds 9*letter*(used=0);worth 0;may 1;'",
            "force(1) write(0,0)=65 told(0,0)=1 told(7,0)=1 write(1,0)=7 told(0,0)=3 told(7,0)=2");
        Script.holds("P4 LETTERS stand in order", "word(0,12)=0 word(0,121)=1 law(5,0) rule(1) write(0,0)=10 costs(1,0)=8",
            "set(0,1,0) costs(1,0)=11");
        Script.holds("P4 10 WORDS at most", TEN_WORDS, "word(0,1)=-4 count(0)=10 told(9,7)=6 costs(9,23)=6");
        Script.holds("P4 BAD ahead of FULL", TEN_WORDS, "word(4,1)=-2 word(-1,1)=-2 word(0,0)=-2 word(0,9)=-2",
            "word(0,1111111)=-2");
        Script.holds("P4 two alike are two WORDS", "word(0,1)=0 word(0,1)=1 count(0)=2");
    }

    private static void writer() {
        Script.holds("P5 a THING is 0 .. 3", "writer(-1,0,0)=-2 writer(4,0,0)=-2 count(1)=0 writer(0,0,0)=0",
            "writer(3,0,0)=1 told(1,1)=3");
        Script.holds("P5 an HOUR is 0 .. 23", "writer(0,-1,0)=-2 writer(0,24,0)=-2 count(1)=0 writer(0,0,0)=0",
            "writer(0,23,0)=1 told(1,2)=23");
        Script.holds("P5 a PURSE is 0 .. 9999", "writer(0,0,-1)=-2 writer(0,0,10000)=-2 count(1)=0 writer(0,0,0)=0",
            "writer(0,0,9999)=1 told(1,3)=9999");
        Script.holds("P5 5 WRITERS at most", FIVE_WRITERS, "writer(0,0,0)=-4 count(1)=5 told(4,2)=23");
        Script.holds("P5 BAD ahead of FULL", FIVE_WRITERS, "writer(4,0,0)=-2 writer(-1,0,0)=-2 writer(0,24,0)=-2",
            "writer(0,-1,0)=-2 writer(0,0,10000)=-2 writer(0,0,-1)=-2 count(1)=5");
    }

    private static void law() {
        Script.holds("P6 a KIND is 0 .. 5", "law(-1,0)=-2 law(6,0)=-2 count(2)=1 law(0,0)=1 law(5,0)=2 told(1,5)=0",
            "told(2,5)=5");
        Script.holds("P6 a NUMBER is 0 .. 9", "law(0,-1)=-2 law(0,10)=-2 count(2)=1 law(0,0)=1 law(0,9)=2 told(1,4)=0",
            "told(2,4)=9");
        Script.holds("P6 6 LAWS at most, LAW 0 with them", SIX_LAWS, "law(0,0)=-4 count(2)=6 told(5,5)=5");
        Script.holds("P6 BAD ahead of FULL", SIX_LAWS, "law(6,0)=-2 law(-1,0)=-2 law(0,10)=-2 law(0,-1)=-2 count(2)=6");
        Script.holds("P6 THE LAW stays", SIX_LAWS, "count(3)=0 rule(0)=0");
    }

    private static void rule() {
        Script.holds("P7 a LAW is one of those there are", "rule(-1)=-2 rule(1)=-2 rule(0)=0", SIX_LAWS, "rule(5)=0",
            "rule(6)=-2 rule(-1)=-2 rule(2147483647)=-2 count(3)=5 rule(0)=5 count(3)=0");
        Script.holds("P7 THE LAW tells COSTS and AGES", "word(0,1) set(0,0,10) law(2,4)=1 rule(1)=0 costs(0,0)=7",
            "pass(1)=6 rule(0)=1 costs(0,0)=7 pass(1)=6");
        Script.holds("P7 a LAW that is THE LAW already", "law(0,0) rule(1)=0 rule(1)=1 count(3)=1");
    }

    private static void feed() {
        Script.holds("P8 a byte is 0 .. 255", "feed(-1)=-2 feed(256)=-2 count(5)=0 feed(0)=1 feed(255)=2",
            "feed(-2147483648)=-2 feed(2147483647)=-2 count(5)=2 text()=-100");
        StringBuilder full = new StringBuilder();
        for (int i = 1; i <= 160; i++) full.append(" feed(32)=").append(i);
        Script.holds("P8 160 bytes at most", full.toString(), "feed(32)=-4 feed(0)=-4 feed(255)=-4 count(5)=160",
            "text()=-260 count(5)=0 feed(32)=1");
        Script.holds("P8 BAD ahead of FULL", full.toString(), "feed(-1)=-2 feed(256)=-2 count(5)=160");
        Script.holds("P8 behind THE TAPE", "feed(97) feed(100) feed(100) feed(115) text()=-104 feed(115) feed(97)",
            "feed(100) feed(100) text()=-100");
    }

    private static void text() {
        Script.holds("P9 its number", "'adds 0;worth 0;may 1;'=1 'adds 0;worth 0;may 1;'=2 count(4)=3");
        Script.holds("P9 THE TAPE is empty then, by a FAULT, too", "'adds 0;worth 0;may 1;'=1 count(5)=0 feed(32)=1",
            "text()=-101 count(5)=0 text()=-100 count(4)=2");
        StringBuilder whole = new StringBuilder("adds 1;worth 2;may 3;");
        while (whole.length() < 160) whole.append(' ');
        Script.holds("P9 a TEXT of 160 bytes", "'" + whole + "'=1");
        String long1 = "adds 1" + "+1".repeat(61) + ";worth 0+1+1;may 0+1;";
        Script.holds("P9 a TEXT of TOKENS without blanks", "word(0,1) '" + long1 + "'=1 force(1) costs(0,0)=63");
        String fit = "adds 0;worth 0;may " + "1-".repeat(70);
        Script.holds("P9 the 160th byte can't stand", "'" + fit + ";'=-259 count(5)=0");
        Script.holds("P9 behind the 160th byte it ends too early", "'" + fit + "1'=-260 count(5)=0");
        Script.holds("P9 the 160th byte ends it", "'" + fit.substring(0, 158) + "1;'=1 count(5)=0");
        String six = "'adds 1;worth 0;may 1;'=1 'adds 2;worth 0;may 1;'=2 'adds 3;worth 0;may 1;'=3 'adds 4;worth 0;may 1;'=4"
            + " 'adds 5;worth 0;may 1;'=5";
        Script.holds("P9 6 TEXTS at most, TEXT 0 with them", six, "count(4)=6 text()=-4 'adds 6;worth 0;may 1;'=-4",
            "count(4)=6 force(6)=-2");
        Script.holds("P9 FULL ahead of all: THE TAPE stays", six, "text()=-4 feed(35) text()=-4 count(5)=1 text()=-4",
            "count(5)=1 feed(97)=2");
        Script.holds("P9 a FAULT takes no room", "'a'=-100 'a'=-100 'a'=-100 'a'=-100 'a'=-100 'a'=-100", six);
        Script.holds("P9 each TEXT is its own", six, "word(0,1) force(5)=0 costs(0,0)=6 force(1)=5 costs(0,0)=2",
            "force(0)=1 costs(0,0)=1 force(3)=0 costs(0,0)=4");
        Script.holds("P9 a FAULT leaves THE RULE", "word(0,1) 'adds 7;worth 0;may 1;'=1 force(1) costs(0,0)=8",
            "'adds 9;worth 0;may'=-118 costs(0,0)=8 count(6)=1 count(4)=2");
    }

    private static void force() {
        Script.holds("P10 a TEXT is one of those there are", "force(-1)=-2 force(1)=-2 force(0)=0",
            "'adds 1;worth 0;may 1;'=1 force(2)=-2 force(1)=0 force(-1)=-2 force(2147483647)=-2 count(6)=1 force(0)=1");
        Script.holds("P10 the sixth TEXT", "'adds 1;worth 0;may 1;' 'adds 1;worth 0;may 1;' 'adds 1;worth 0;may 1;'",
            "'adds 1;worth 0;may 1;' 'adds 9;worth 0;may 1;'=5 force(6)=-2 force(5)=0 word(0,1) costs(0,0)=10 force(5)=5",
            "count(6)=5");
        Script.holds("P10 text() alone changes no RULE", "word(0,1) 'adds 9;worth 0;may 1;'=1 count(6)=0 costs(0,0)=1");
    }

    private static void costs() {
        Script.holds("P11 a WORD is one of those there are", "costs(0,0)=-2", TEN_WORDS, "costs(0,0)=1 costs(9,0)=6",
            "costs(10,0)=-2 costs(-1,0)=-2 costs(2147483647,0)=-2 costs(-2147483648,0)=-2");
        Script.holds("P11 an HOUR is 0 .. 23", "word(0,1) 'adds hour;worth 0;may 1;' force(1) costs(0,0)=1 costs(0,23)=24",
            "costs(0,24)=-2 costs(0,-1)=-2 costs(0,2147483647)=-2");
        Script.holds("P11 as USED now, and they stay", "word(0,11) costs(0,0)=3 costs(0,0)=3 told(0,0)=0 set(0,0,999)",
            "costs(0,0)=2000 told(0,0)=999");
        Script.holds("P11 the dearest", "word(0,111111) law(1,9) rule(1) set(0,0,999) 'adds 99;worth 0;may 1;' force(1)",
            "costs(0,0)=66582");
    }

    private static void write() {
        Script.holds("P12 a WORD is one of those there are", "write(0,0)=-2", TEN_WORDS, "write(-1,0)=-2 write(10,0)=-2",
            "count(7)=0 write(0,0)=1 count(7)=1 write(9,0)=7 count(7)=7");
        Script.holds("P12 an HOUR is 0 .. 23", "word(0,1) 'adds hour;worth 0;may 1;' force(1) write(0,24)=-2",
            "write(0,-1)=-2 count(7)=0 write(0,0)=1 write(0,23)=25 count(7)=2");
        Script.holds("P12 USED 1 more, 999 at most", "word(0,1) set(0,0,997) write(0,0)=998 told(0,0)=998 write(0,0)=999",
            "told(0,0)=999 write(0,0)=1000 told(0,0)=999");
        Script.holds("P12 999 at most within a WORD", "word(0,111112) set(0,0,997) set(4,0,0) write(0,0)=4992",
            "told(0,0)=999 told(1,0)=1");
        Script.holds("P12 no HOUR passes by it", "word(0,1) law(2,9) rule(1) set(0,1,9) write(0,23)=4 told(1,0)=9",
            "told(0,0)=1");
    }

    private static void pass() {
        Script.holds("P13 n is 0 .. 24", "law(3,0) rule(1) set(0,0,100) pass(-1)=-2 pass(25)=-2 pass(-2147483648)=-2",
            "pass(2147483647)=-2 count(7)=100 pass(0)=100 pass(1)=99 pass(24)=75 told(0,0)=75");
        Script.holds("P13 USED of all LETTERS together", "set(0,0,999) set(0,1,999) set(0,2,999) set(0,3,999)",
            "set(0,4,999) set(0,5,999) set(0,6,999) set(0,7,999) pass(0)=7992 pass(24)=7992 law(3,0) rule(1)",
            "pass(24)=7800");
        Script.holds("P13 0 at least", "law(2,9) rule(1) set(0,0,215) set(0,1,216) set(0,2,217) pass(24)=1 told(0,0)=0",
            "told(1,0)=0 told(2,0)=1");
    }

    private static void cheapest() {
        Script.holds("P14 a THING is 0 .. 3", "word(0,1) word(3,22) cheapest(-1,0,0)=-2 cheapest(4,0,0)=-2",
            "cheapest(0,0,0)=0 cheapest(3,0,0)=1 cheapest(3,0,1)=3");
        Script.holds("P14 an HOUR is 0 .. 23", "word(0,1) 'adds hour;worth 0;may 1;' force(1) cheapest(0,-1,0)=-2",
            "cheapest(0,24,0)=-2 cheapest(0,0,1)=1 cheapest(0,23,1)=24");
        Script.holds("P14 what is 0 or 1", "word(0,1) cheapest(0,0,-1)=-2 cheapest(0,0,2)=-2 cheapest(0,0,0)=0",
            "cheapest(0,0,1)=1");
        Script.holds("P14 BAD, though there is none", "cheapest(4,0,0)=-2 cheapest(0,24,1)=-2 cheapest(0,0,2)=-2");
        Script.holds("P14 NONE, whatever is asked", "word(1,1) cheapest(0,0,0)=-1 cheapest(0,0,1)=-1 cheapest(2,23,1)=-1");
        Script.holds("P14 of like ones the first", "word(1,1) word(0,11) word(0,2) word(0,3) cheapest(0,0,0)=2 set(0,1,1)",
            "cheapest(0,0,0)=3 set(0,2,1) cheapest(0,0,0)=2 set(0,1,2) set(0,2,2) cheapest(0,0,0)=1 cheapest(0,0,1)=3");
        Script.holds("P14 the last of ten", "word(0,11) word(0,11) word(0,11) word(0,11) word(0,11) word(0,11) word(0,11)",
            "word(0,11) word(0,11) word(0,8) cheapest(0,0,0)=9 cheapest(0,0,1)=1 set(0,7,2) cheapest(0,0,0)=0");
        Script.holds("P14 what costs 0", "set(4,0,0) word(0,8) word(0,1) cheapest(0,0,0)=0 cheapest(0,0,1)=0");
        Script.holds("P14 no PURSE and no may matter", "word(0,1) writer(0,0,0) 'adds 0;worth 0;may 0;' force(1)",
            "cheapest(0,0,0)=0");
        Script.holds("P14 by the HOUR", "word(0,1) word(0,22) 'adds 9*(hour=23)*(letter=0);worth 0;may 1;' force(1)",
            "cheapest(0,22,0)=0 cheapest(0,23,0)=1");
    }
}
