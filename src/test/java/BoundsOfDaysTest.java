/** Every sentence of promises 15 to 23, and of Terms 2 behind them, that names a bound. */
public final class BoundsOfDaysTest {
    private static final String FIVE_WRITERS = "writer(0,0,9999) writer(0,5,9999) writer(0,11,9999) writer(0,17,9999) writer(0,23,9999)";

    public static void main(String[] args) {
        day();
        purses();
        hours();
        dayAtTheMost();
        all();
        when();
        choose();
        rest();
        turns();
        turnsByHowMany();
        burn();
        worst();
        best();
        Script.end("BoundsOfDaysTest", 15, 23);
    }

    private static void day() {
        Script.holds("P15 a WRITER is one of those there are", "day(0,0)=-100000 word(0,1)", FIVE_WRITERS,
            "day(-1,0)=-100000 day(5,0)=-100000 day(2147483647,1)=-100000 day(-2147483648,2)=-100000 day(0,0)=1",
            "day(4,0)=5 day(0,1)=0 day(4,1)=0 day(0,2)=48 day(4,2)=44");
        Script.holds("P15 what is 0 .. 2", "word(0,1) writer(0,0,9) day(0,-1)=-100000 day(0,3)=-100000",
            "day(0,2147483647)=-100000 day(0,0)=1 day(0,1)=0 day(0,2)=48");
        Script.holds("P15 SAID nothing: PAID 0, NONE, GOOD 0", "writer(0,0,9999) day(0,0)=0 day(0,1)=-1 day(0,2)=0");
        Script.holds("P15 only WORDS of its THING", "word(1,1) word(2,1) word(3,1) writer(0,0,9) day(0,1)=-1 set(1,0,3)",
            "day(0,1)=2 set(1,0,1) day(0,1)=0");
        Script.holds("P15 only WORDS of which may tells it", "word(0,1) word(0,222) word(0,3) writer(0,0,99)",
            "'adds 0;worth 50;may length=3;'=1 force(1) day(0,1)=1 day(0,0)=6 'adds 0;worth 50;may 0;'=2 force(2)",
            "day(0,1)=-1 day(0,2)=0");
        Script.holds("P15 of like ones the first", "word(1,1) word(0,12) word(0,3) word(0,4) writer(0,0,9) day(0,1)=2",
            "set(0,2,1) day(0,1)=3 set(0,3,1) day(0,1)=1 set(0,0,1) day(0,1)=2");
        Script.holds("P15 the last of ten WORDS", "word(0,11) word(0,11) word(0,11) word(0,11) word(0,11) word(0,11)",
            "word(0,11) word(0,11) word(0,11) word(0,8) writer(0,0,9) day(0,1)=9");
        Script.holds("P15 GOOD may be below 0", "word(0,1) writer(0,0,9999) set(0,0,999) day(0,2)=-951 all(0)=-951");
        Script.holds("P15 in thought alone", "word(0,1)", FIVE_WRITERS, "day(4,0)=5 day(4,0)=5 count(7)=0");
    }

    private static void purses() {
        Script.holds("P15 no more than its PURSE", "word(0,123) writer(0,0,2) day(0,1)=-1 set(3,0,3) day(0,1)=0",
            "day(0,0)=3 set(3,0,4) day(0,1)=0");
        Script.holds("P15 a PURSE of 0", "word(0,1) writer(0,0,0) day(0,1)=-1 set(4,0,0) day(0,1)=0 day(0,0)=0",
            "day(0,2)=49");
        Script.holds("P15 a PURSE of 9999 is enough for 9999", "word(0,1) writer(0,0,9999) law(1,9) rule(1) set(0,0,908)",
            "'adds 2;worth 999;may 1;' force(1) day(0,0)=9999 day(0,1)=0 day(0,2)=-9000");
        Script.holds("P15 a PURSE of 9999 is too small for 10000", "word(0,1) writer(0,0,9999) law(1,9) rule(1)",
            "set(0,0,908) 'adds 3;worth 999;may 1;' force(1) day(0,0)=0 day(0,1)=-1 day(0,2)=0 costs(0,0)=10000");
        Script.holds("P15 a PURSE is as it was for each saying", "word(0,1) writer(0,0,2) writer(0,0,2) writer(0,0,2)",
            "day(0,0)=1 day(1,0)=2 day(2,1)=-1 told(0,3)=2");
        Script.holds("P15 who SAYS nothing uses nothing", "word(0,1) writer(0,0,0) writer(0,0,1) day(0,1)=-1 day(1,0)=1");
    }

    private static void hours() {
        Script.holds("P15 by HOURS", "word(0,1) writer(0,23,9) writer(0,0,9) writer(0,12,9) day(0,0)=3 day(1,0)=1",
            "day(2,0)=2");
        Script.holds("P15 within an HOUR by numbers", "word(0,1) writer(0,7,9) writer(0,7,9) writer(0,7,9) writer(0,7,9)",
            "writer(0,7,9) day(0,0)=1 day(1,0)=2 day(2,0)=3 day(3,0)=4 day(4,0)=5");
        Script.holds("P15 at HOUR 0 with what is USED now", "word(0,1) writer(0,0,9999) law(3,0) rule(1) set(0,0,26)",
            "day(0,0)=48 set(0,0,2) day(0,0)=0 set(0,0,3) day(0,0)=6");
        Script.holds("P15 at HOUR 23 23 HOURS have passed", "word(0,1) writer(0,23,9999) law(3,0) rule(1) set(0,0,25)",
            "day(0,0)=0 set(0,0,26) day(0,0)=6 set(0,0,28) day(0,0)=6 set(0,0,29) day(0,0)=12");
        Script.holds("P15 at HOUR 1 one HOUR has passed", "word(0,1) writer(0,1,9999) law(3,0) rule(1) set(0,0,3)",
            "day(0,0)=0 set(0,0,4) day(0,0)=6");
        Script.holds("P15 what is USED ages, too", "word(0,1) writer(0,3,99) writer(0,4,99) writer(0,4,99) law(2,1)",
            "rule(1) day(0,0)=0 day(1,0)=0 day(2,0)=1 set(2,1,3) day(1,0)=1 day(2,0)=1");
        Script.holds("P15 a NIGHT's HOURS", "word(0,1) law(4,8) rule(1) writer(0,0,9) writer(0,5,9) writer(0,6,9)",
            "writer(0,23,9) day(0,0)=0 day(1,0)=0 day(2,0)=4 day(3,0)=4");
        Script.holds("P15 may and worth at its HOUR", "word(0,1) writer(0,23,9) writer(0,0,9)",
            "'adds 0;worth 10+hour;may hour=0 or hour=23;'=1 force(1) day(0,2)=31 day(1,2)=9 set(2,0,22) day(0,1)=-1");
    }

    private static void dayAtTheMost() {
        Script.holds("P15 USED is 999 at most in a DAY", "word(0,111) set(0,0,998) set(4,0,0) writer(0,0,9999)",
            "writer(0,1,9999) day(0,0)=2996 day(1,0)=2997");
        Script.holds("P15 of WORDS the one that costs least as USED then", "word(0,1) word(0,2) set(0,0,999) set(0,1,997)",
            "set(4,0,0) writer(0,0,9999) writer(0,1,9999) writer(0,2,9999) day(0,1)=1 day(1,1)=1 day(2,1)=0 day(2,0)=999");
        Script.holds("P15 five WRITERS, ten WORDS", "word(0,1) word(0,2) word(0,3) word(0,4) word(0,5) word(0,6)",
            "word(0,7) word(0,8) word(0,12) word(0,34)", FIVE_WRITERS, "day(0,1)=0 day(1,1)=1 day(2,1)=2 day(3,1)=3",
            "day(4,1)=4 all(2)=1 all(3)=5");
    }

    private static void all() {
        Script.holds("P16 what is 0 .. 3", "all(-1)=-100000 all(4)=-100000 all(2147483647)=-100000 all(0)=0 all(1)=0",
            "all(2)=0 all(3)=0");
        Script.holds("P16 of all WRITERS together", "word(0,1)", FIVE_WRITERS, "all(0)=230 all(1)=5 all(2)=5 all(3)=15");
        Script.holds("P16 of those who SAID anything", "word(0,1) writer(0,0,1) writer(0,0,1) writer(1,0,9) writer(0,0,2)",
            "all(0)=95 all(1)=2 all(2)=2 all(3)=3");
        Script.holds("P16 how many SAID, though it cost 0", "set(4,0,0) word(0,1) writer(0,0,0) all(1)=1 all(3)=0",
            "all(0)=49");
        Script.holds("P16 SPREAD of LETTERS that are alike", "set(0,0,9) set(0,1,9) set(0,2,9) set(0,3,9) set(0,4,9)",
            "set(0,5,9) set(0,6,9) all(2)=9 set(0,7,9) all(2)=0 set(0,7,8) all(2)=1 set(0,7,10) all(2)=1 set(0,0,8)",
            "all(2)=2");
        Script.holds("P16 SPREAD, 999 at most", "set(0,7,999) all(2)=999 set(0,7,0) set(0,0,999) all(2)=999");
        Script.holds("P16 SPREAD at the end of the DAY: 24 HOURS have passed", "law(3,0) rule(1) set(0,0,24) all(2)=0",
            "set(0,0,25) all(2)=1 word(0,2) writer(0,23,9) all(2)=1 set(0,0,0) all(2)=0 law(0,0) rule(2) all(2)=1");
    }

    private static void when() {
        Script.holds("P17 a WRITER is one of those there are", "when(0,0)=-100000 word(0,1)", FIVE_WRITERS,
            "when(-1,0)=-100000 when(5,0)=-100000 when(5,1)=-100000 when(2147483647,0)=-100000 when(0,0)=0 when(4,0)=0",
            "when(4,1)=47");
        Script.holds("P17 what is 0 or 1", "word(0,1) writer(0,9,9) when(0,-1)=-100000 when(0,2)=-100000 when(0,0)=0",
            "when(0,1)=48");
        Script.holds("P17 of like ones the first", "writer(0,9,9) when(0,0)=0 when(0,1)=0 word(0,1) when(0,0)=0",
            "when(0,1)=48");
        Script.holds("P17 HOUR 23", "word(0,1) writer(0,9,9) 'adds 9*(hour<23);worth 50;may 1;' force(1) when(0,0)=23",
            "when(0,1)=49");
        Script.holds("P17 HOUR 22 of 22 and 23", "word(0,1) writer(0,23,9) 'adds 9*(hour<22);worth 50;may 1;' force(1)",
            "when(0,0)=22");
        Script.holds("P17 nothing to SAY is more than GOOD below 0", "word(0,1) writer(0,9,9)",
            "'adds 0;worth 0;may hour<20;' force(1) when(0,0)=20 when(0,1)=0");
        Script.holds("P17 GOOD below 0 by all", "word(0,1) writer(0,9,9) 'adds hour=0;worth 0;may 1;' force(1)",
            "when(0,0)=1 when(0,1)=-1");
        Script.holds("P17 others WRITE as their HOURS are", "word(0,11) writer(0,0,99) writer(0,9,99) when(1,0)=0",
            "when(1,1)=41 when(0,0)=0 when(0,1)=45 set(2,0,1) when(1,0)=0 when(1,1)=45 when(0,1)=45");
        Script.holds("P17 its own HOUR stays", "word(0,1) writer(0,9,9) when(0,0)=0 told(0,2)=9 when(0,1)=48 told(0,2)=9");
        Script.holds("P17 by a LAW that ages", "word(0,1) writer(0,0,999) law(2,9) rule(1) set(0,0,207) when(0,0)=23",
            "when(0,1)=45 set(0,0,199) when(0,0)=23 set(0,0,198) when(0,0)=22");
    }

    private static void choose() {
        Script.holds("P18 a WRITER is one of those there are", "choose(0)=-100000 word(0,1)", FIVE_WRITERS,
            "choose(-1)=-100000 choose(5)=-100000 choose(2147483647)=-100000 choose(-2147483648)=-100000 told(4,2)=23",
            "choose(4)=47 told(4,2)=0 told(0,2)=0");
        Script.holds("P18 truly", "word(0,1) writer(0,9,9) 'adds 9*(hour<23);worth 50;may 1;' force(1) choose(0)=49",
            "told(0,2)=23 day(0,2)=49 choose(0)=49 told(0,2)=23");
        Script.holds("P18 the first of like ones, not its own", "word(0,1) writer(0,9,9) choose(0)=48 told(0,2)=0");
        Script.holds("P18 its HOUR alone", "word(0,1) writer(0,9,9) writer(0,8,9) set(0,0,1) choose(1)=47 told(0,2)=9",
            "told(1,2)=0 told(1,1)=0 told(1,3)=9 count(7)=1");
    }

    private static void rest() {
        Script.holds("P19 without WRITERS", "rest()=1");
        Script.holds("P19 no other HOUR is more", "word(0,1) writer(0,23,9) rest()=1 writer(1,0,0) rest()=1");
        Script.holds("P19 of the first WRITER", "word(0,1) word(1,2) writer(0,5,9) writer(1,6,9)",
            "'adds hour=5;worth 50;may 1;' force(1) rest()=0 set(2,0,4) rest()=1");
        Script.holds("P19 of the last WRITER", "word(0,1) word(1,2) writer(0,0,9) writer(0,0,9) writer(0,0,9)",
            "writer(0,0,9) writer(1,5,9) 'adds hour=5;worth 50;may 1;' force(1) rest()=0 set(2,4,6) rest()=1");
        Script.holds("P19 one more of GOOD is enough", "word(0,1) writer(0,22,9) 'adds hour<23;worth 50;may 1;' force(1)",
            "rest()=0 set(2,0,23) rest()=1");
        Script.holds("P19 who would come ahead of another", "word(0,1) writer(0,5,9) writer(0,4,9) rest()=0 set(2,0,4)",
            "rest()=0 set(2,0,0) rest()=1 set(2,1,0) rest()=1 set(2,0,1) rest()=0 set(2,0,0) rest()=1");
        Script.holds("P19 all stays", "word(0,1) writer(0,5,9) writer(0,4,9) rest()=0 told(0,2)=5 told(1,2)=4 count(7)=0");
    }

    private static void turns() {
        Script.holds("P20 what is 0 or 1", "word(0,1) writer(0,0,9) turns(-1)=-100000 turns(2)=-100000",
            "turns(2147483647)=-100000 turns(0)=48 turns(1)=0");
        Script.holds("P20 of like ones the least as digits", "word(0,1) writer(0,3,9) writer(0,2,9) turns(1)=1",
            "writer(0,1,9) turns(1)=12 writer(0,0,9) turns(1)=123 writer(0,0,9) turns(1)=123 turns(0)=230");
        Script.holds("P20 of like HOURS the least as digits", "word(0,1) word(1,2) word(2,3) word(3,4) writer(0,9,9)",
            "writer(1,9,9) writer(2,9,9) writer(3,9,9) turns(1)=123 turns(0)=192");
        Script.holds("P20 each one's HOUR once", "word(0,1) word(1,2) writer(0,9,9) writer(1,8,9)",
            "'adds hour=9;worth 50;may 1;' force(1) turns(0)=97 turns(1)=1");
        Script.holds("P20 HOURS stay", "word(0,1) word(1,2) writer(0,3,99) writer(1,4,99)",
            "'adds 9*(hour=3)*(letter=0);worth 50;may 1;' force(1) turns(1)=10 told(0,2)=3 told(1,2)=4 all(0)=89",
            "turns(0)=98");
        Script.holds("P20 ALL GOOD below 0", "word(0,1) writer(0,0,99) writer(0,0,99) 'adds 9;worth 0;may 1;' force(1)",
            "turns(0)=-21 turns(1)=1");
        Script.holds("P20 ALL GOOD of 0", "writer(0,0,99) writer(0,1,99) turns(0)=0 turns(1)=1");
    }

    private static void turnsByHowMany() {
        Script.holds("P20 of none", "turns(0)=0 turns(1)=0");
        Script.holds("P20 of 1", "word(0,1) writer(0,23,9) turns(0)=48 turns(1)=0");
        Script.holds("P20 of 2", "word(0,1) word(1,2) writer(0,3,99) writer(1,4,99) turns(1)=1 turns(0)=96",
            "'adds 9*(hour=3)*(letter=0);worth 50-length;may 1;' force(1) turns(1)=10 turns(0)=96 all(0)=87");
        Script.holds("P20 of 3", "word(0,1) word(1,2) word(2,3) writer(0,0,99) writer(1,1,99) writer(2,2,99)",
            "'adds 9*(not(hour=letter+2 or hour+1=letter));worth 50-length;may 1;'=1 force(1) turns(1)=201 turns(0)=144",
            "all(0)=117 'adds 9*(not(hour=letter+1 or hour+2=letter));worth 50-length;may 1;'=2 force(2) turns(1)=120",
            "turns(0)=144");
        String four = "word(0,1) word(1,2) word(2,3) word(3,4) writer(0,0,99) writer(1,1,99) writer(2,2,99) writer(3,3,99)";
        Script.holds("P20 of 4", four, "'adds 9*(1-(hour+letter=3));worth 50-length;may 1;'=1 force(1) turns(1)=3210",
            "turns(0)=192 'adds 9*(1-(hour=letter));worth 50-length;may 1;'=2 force(2) turns(1)=123 turns(0)=192",
            "'adds 9*(1-(hour=letter+1 or hour+3=letter));worth 50-length;may 1;'=3 force(3) turns(1)=1230 turns(0)=192");
        Script.holds("P20 of 5 the last keeps its HOUR", four, "writer(0,0,99)",
            "'adds 9*(1-(hour+letter=3));worth 50-length;may 1;'=1 force(1) turns(1)=3210 turns(0)=230 told(4,2)=0",
            "set(1,4,3) set(2,4,20) turns(1)=3210 turns(0)=230 told(4,2)=20 set(2,4,0) turns(0)=239");
    }

    private static void burn() {
        Script.holds("P21 a LETTER is 0 .. 7", "word(0,1) word(1,8) writer(0,0,999) writer(1,0,999) burn(-1,1)=-100000",
            "burn(8,1)=-100000 burn(0,1)=1 burn(7,1)=1 burn(3,1)=0 burn(2147483647,1)=-100000");
        Script.holds("P21 n is 1 .. 20", "word(0,1) writer(0,0,999) burn(0,0)=-100000 burn(0,21)=-100000",
            "burn(0,-1)=-100000 burn(0,1)=1 burn(0,20)=20 burn(0,-2147483648)=-100000 burn(0,2147483647)=-100000");
        Script.holds("P21 999 at most", "word(0,1) writer(0,0,9999) set(0,0,979) burn(0,20)=20 set(0,0,980) burn(0,20)=19",
            "set(0,0,998) burn(0,20)=1 burn(0,1)=1 set(0,0,999) burn(0,20)=0 told(0,0)=999");
        Script.holds("P21 a WRITER who would SAY nothing then", "word(0,1) writer(0,0,2) burn(0,1)=1 burn(0,2)=48",
            "burn(0,20)=48");
        Script.holds("P21 another WORD then", "word(0,1) word(0,22) writer(0,0,99) burn(0,1)=1 burn(0,2)=2 burn(0,3)=3",
            "burn(0,20)=3 burn(1,20)=0");
        Script.holds("P21 below 0, if more would be GOOD", "word(0,1) writer(0,0,99) law(5,0) rule(1) burn(0,1)=-3",
            "burn(0,2)=-1 burn(0,3)=1");
        Script.holds("P21 now, not at its HOUR", "word(0,1) writer(0,23,99) law(2,1) rule(1) burn(0,20)=0 set(2,0,0)",
            "burn(0,20)=10");
        Script.holds("P21 in thought alone", "word(0,1) writer(0,0,99) burn(0,20)=20 count(7)=0");
    }

    private static void worst() {
        Script.holds("P22 n is 1 .. 20", "word(0,2) writer(0,0,999) worst(0,0)=-100000 worst(21,0)=-100000",
            "worst(-1,1)=-100000 worst(1,0)=1 worst(1,1)=1 worst(20,0)=1 worst(20,1)=20 worst(2147483647,0)=-100000",
            "worst(-2147483648,0)=-100000");
        Script.holds("P22 what is 0 or 1", "worst(1,-1)=-100000 worst(1,2)=-100000 worst(1,0)=0 worst(1,1)=0");
        Script.holds("P22 the first and the last LETTER", "word(0,1) word(1,8) writer(0,0,99) worst(1,0)=0 set(1,0,1)",
            "worst(1,0)=7 worst(1,1)=1");
        Script.holds("P22 of like ones the first", "word(0,23) writer(0,0,99) worst(5,0)=1 worst(5,1)=5 word(1,8)",
            "writer(1,0,99) worst(5,0)=1 set(0,1,995) set(3,0,9999) worst(5,0)=2");
        Script.holds("P22 of none that is more than 0 the first of 0", "word(0,123) writer(0,0,999) law(5,0) rule(1)",
            "worst(1,0)=3 worst(1,1)=0 worst(3,0)=0 worst(3,1)=1");
        Script.holds("P22 all below 0", "word(0,12345) word(1,678) writer(0,0,999) writer(1,0,999) law(5,0) rule(1)",
            "worst(1,0)=0 worst(1,1)=-3 burn(7,1)=-3 set(0,4,1) worst(1,0)=4 worst(1,1)=2 set(0,4,0) worst(2,0)=0",
            "worst(2,1)=-1");
        Script.holds("P22 what burns to 999", "word(0,12) writer(0,0,9999) set(0,0,998) set(0,1,990) worst(20,0)=1",
            "worst(20,1)=9 worst(1,0)=0");
    }

    private static void best() {
        Script.holds("P23 what is 0 .. 2", "best(-1)=-100000 best(3)=-100000 best(2147483647)=-100000 best(0)=0 best(1)=0",
            "best(2)=0");
        Script.holds("P23 of like ones the first", "law(0,1) law(0,1) law(0,1) word(0,1) writer(0,0,9) best(0)=0 rule(2)",
            "best(0)=0 best(2)=48");
        Script.holds("P23 the last of six LAWS", "law(0,1) law(0,1) law(0,1) law(0,1) law(0,0)=5 word(0,1) writer(0,0,9)",
            "best(0)=5 best(1)=1 best(2)=49 count(3)=0");
        Script.holds("P23 the last of six by how many SAY anything", "set(4,0,9) law(0,9) law(0,9) law(0,9) law(0,9)",
            "law(0,8)=5 word(0,1) writer(0,0,8) best(0)=5 best(1)=1 best(2)=41");
        Script.holds("P23 most WRITERS ahead of ALL GOOD", "word(0,1) writer(0,0,8) writer(0,0,8) 'adds 0;worth 0;may 1;'",
            "force(1) set(4,0,9) law(0,7)=1 law(0,8)=2 best(0)=1 best(1)=2 best(2)=-15 set(4,1,8) best(0)=1 best(1)=1",
            "best(2)=-8");
        Script.holds("P23 of like many that by which ALL GOOD is most", "word(0,1) writer(0,0,99) law(0,5) law(0,0)=2",
            "law(0,0)=3 best(0)=2");
        Script.holds("P23 without a WORD", "writer(0,0,9) law(0,0) best(0)=0 best(1)=0 best(2)=0");
        Script.holds("P23 by its own AGES", "word(0,1) writer(0,23,99) set(0,0,40) law(2,2)=1 best(0)=1 best(1)=1",
            "best(2)=48 count(7)=40");
    }
}
