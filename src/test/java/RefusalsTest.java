/**
 * A refused call changes nothing, nor does one that only asks: beside an object that was not called, nothing is seen to
 * differ. Where a call could be refused twice, what the document names first is told.
 */
public final class RefusalsTest {
    /** Some of everything, and an IMAGE of how it was a while ago; SHEET 3 is missing. */
    private static final String RICH = "word(0,123) word(0,45) word(1,8) writer(0,3,100) writer(1,5,50) writer(0,3,7) law(2,3) law(5,4)"
        + " rule(1) set(0,0,17) set(0,7,2) 'adds letter;worth 60;may 1;'=1 'adds 1;worth 30-length;may hour<9;'=2 force(1) image()"
        + " set(0,0,9) set(0,4,33) set(2,1,6) set(3,0,70) writer(1,1,30) law(3,1) rule(2) word(1,77) force(2) feed(97) feed(100)"
        + " sheet(0,0,6) cell(0,0,1) cell(0,1,11) cell(0,2,111) cell(0,3,2) cell(0,4,22) cell(0,5,122)"
        + " sheet(1,1,3) cell(1,0,3) cell(1,1,4) cell(1,2,999) sheet(2,2,4) cell(2,1,8) cell(2,2,5000)";
    private static final String FULL = "word(0,1) word(0,2) word(0,3) word(0,4) word(0,5) word(1,6) word(1,7) word(1,8) word(1,12) word(1,34)"
        + " writer(0,1,9) writer(0,2,99) writer(1,3,999) writer(1,4,9999) writer(0,5,5) law(1,2) law(2,3) law(3,4) law(4,5) law(5,6)"
        + " 'adds 1;worth 1;may 1;' 'adds 2;worth 2;may 1;' 'adds 3;worth 3;may 1;' 'adds 4;worth 4;may 1;' 'adds 5;worth 5;may 1;'"
        + " feed(97)";

    public static void main(String[] args) {
        refusedLetters();
        refusedTexts();
        refusedWriting();
        refusedDays();
        refusedSaying();
        refusedHost();
        noRoom();
        fullTape();
        asking();
        whatIsSeen();
        whatStoodAheadCame();
        Script.end("RefusalsTest", 2, 36);
    }

    private static void refusedLetters() {
        Script.changesNothing("P2 BAD", RICH, "set(-1,0,0)=-2", "set(5,0,0)=-2", "set(0,-1,5)=-2", "set(0,8,5)=-2",
            "set(0,0,-1)=-2", "set(0,0,1000)=-2", "set(1,4,0)=-2", "set(1,-1,0)=-2", "set(1,0,4)=-2", "set(1,0,-1)=-2",
            "set(2,4,0)=-2", "set(2,-1,0)=-2", "set(2,0,24)=-2", "set(2,0,-1)=-2", "set(3,4,0)=-2", "set(3,-1,0)=-2",
            "set(3,0,10000)=-2", "set(3,0,-1)=-2", "set(4,4,0)=-2", "set(4,-1,0)=-2", "set(4,0,10)=-2", "set(4,0,-1)=-2");
        Script.changesNothing("P3 BAD", RICH, "told(8,0)=-2", "told(4,1)=-2", "told(4,4)=-2", "told(4,6)=-2",
            "told(0,8)=-2", "told(0,-1)=-2");
        Script.changesNothing("P4 BAD", RICH, "word(-1,1)=-2", "word(4,1)=-2", "word(0,0)=-2", "word(0,9)=-2",
            "word(0,10)=-2", "word(0,1111111)=-2", "word(0,-1)=-2");
        Script.changesNothing("P5 BAD", RICH, "writer(-1,0,0)=-2", "writer(4,0,0)=-2", "writer(0,-1,0)=-2",
            "writer(0,24,0)=-2", "writer(0,0,-1)=-2", "writer(0,0,10000)=-2");
        Script.changesNothing("P6 BAD", RICH, "law(-1,0)=-2", "law(6,0)=-2", "law(0,-1)=-2", "law(0,10)=-2");
        Script.changesNothing("P7 BAD", RICH, "rule(-1)=-2", "rule(4)=-2");
    }

    private static void refusedTexts() {
        Script.changesNothing("P8 BAD", RICH, "feed(-1)=-2", "feed(256)=-2");
        Script.changesNothing("P9 FULL", FULL, "text()=-4", "text()=-4 text()=-4");
        Script.changesNothing("P10 BAD", RICH, "force(-1)=-2", "force(3)=-2");
    }

    private static void refusedWriting() {
        Script.changesNothing("P11 BAD", RICH, "costs(4,0)=-2", "costs(-1,0)=-2", "costs(0,24)=-2", "costs(0,-1)=-2");
        Script.changesNothing("P12 BAD", RICH, "write(4,0)=-2", "write(-1,0)=-2", "write(0,24)=-2", "write(0,-1)=-2");
        Script.changesNothing("P13 BAD", RICH, "pass(-1)=-2", "pass(25)=-2");
        Script.changesNothing("P13 no HOUR passes", RICH, "pass(0)=44");
        Script.changesNothing("P14 BAD", RICH, "cheapest(4,0,0)=-2", "cheapest(-1,0,0)=-2", "cheapest(0,24,0)=-2",
            "cheapest(0,-1,0)=-2", "cheapest(0,0,2)=-2", "cheapest(0,0,-1)=-2");
    }

    private static void refusedDays() {
        Script.changesNothing("P15 none such", RICH, "day(4,0)=-100000", "day(-1,0)=-100000", "day(0,3)=-100000",
            "day(0,-1)=-100000");
        Script.changesNothing("P16 none such", RICH, "all(4)=-100000", "all(-1)=-100000");
        Script.changesNothing("P17 none such", RICH, "when(4,0)=-100000", "when(-1,1)=-100000", "when(0,2)=-100000",
            "when(0,-1)=-100000");
        Script.changesNothing("P18 none such", RICH, "choose(4)=-100000", "choose(-1)=-100000");
        Script.changesNothing("P20 none such", RICH, "turns(2)=-100000", "turns(-1)=-100000");
        Script.changesNothing("P21 none such", RICH, "burn(8,1)=-100000", "burn(-1,1)=-100000", "burn(0,0)=-100000",
            "burn(0,21)=-100000");
        Script.changesNothing("P22 none such", RICH, "worst(0,0)=-100000", "worst(21,0)=-100000", "worst(1,2)=-100000",
            "worst(1,-1)=-100000");
        Script.changesNothing("P23 none such", RICH, "best(3)=-100000", "best(-1)=-100000");
    }

    private static void refusedSaying() {
        Script.changesNothing("P24 refused", RICH, "judge(-1)=-2", "judge(4)=-2", "judge(3)=-11", "judge(0)=-2",
            "judge(1)=-2");
        Script.changesNothing("P25 refused", RICH, "fits(4,0)=-2", "fits(-1,0)=-2", "fits(0,-1)=-2", "fits(0,10000)=-2");
        Script.changesNothing("P26 refused", RICH, "whose(-1)=-2", "whose(4)=-2", "whose(3)=-11", "whose(0)=-2",
            "whose(1)=-2");
        Script.changesNothing("P28 refused", RICH, "chance(0,0,0)=-4611686018427387904",
            "chance(0,21,0)=-4611686018427387904", "chance(0,1,2)=-4611686018427387904",
            "chance(0,1,-1)=-4611686018427387904");
        Script.changesNothing("P30 STATE",
            "word(0,1) writer(0,0,9) law(1,1) rule(1) set(0,0,9) 'adds 9;worth 9;may 1;' force(1) feed(97)", "back()=-3");
        Script.changesNothing("P31 BAD", RICH, "count(-1)=-2", "count(8)=-2");
    }

    private static void refusedHost() {
        Script.changesNothing("P32 refused", RICH, "sheet(-1,0,1)=-2", "sheet(4,0,1)=-2", "sheet(0,3,1)=-2",
            "sheet(0,-2,1)=-2", "sheet(0,0,41)=-2", "sheet(0,0,-1)=-14", "sheet(3,0,41)=-2", "sheet(3,0,-1)=-14",
            "sheet(4,-1,0)=-2", "sheet(-1,-1,0)=-2");
        Script.changesNothing("P32 a missing one that becomes missing", RICH, "sheet(3,-1,0)=1", "sheet(3,-1,-1)=1");
        Script.changesNothing("P33 refused", RICH, "cell(-1,0,1)=-2", "cell(4,0,1)=-2", "cell(3,0,1)=-11",
            "cell(0,-1,1)=-12", "cell(0,6,1)=-12", "cell(1,3,1)=-12", "cell(2,4,1)=-12");
        Script.changesNothing("P34 refused", RICH, "copy(-1,0,0,0,1)=-2", "copy(0,0,4,0,1)=-2", "copy(0,0,3,0,1)=-11",
            "copy(3,0,0,0,1)=-11", "copy(0,0,1,0,1)=-13", "copy(1,0,2,0,1)=-13", "copy(0,0,0,3,4)=-12",
            "copy(0,3,0,0,4)=-12", "copy(0,0,0,1,-1)=-12", "copy(0,-1,0,0,2)=-12", "copy(0,0,0,-1,2)=-12",
            "copy(0,0,0,1,2147483647)=-12");
        Script.changesNothing("P34 none", RICH, "copy(0,0,0,3,0)=0", "copy(0,6,0,0,0)=0", "copy(1,0,1,3,0)=0");
        Script.changesNothing("P35 refused", RICH, "writers(-1,0,0,1)=-2", "writers(4,0,0,1)=-2", "writers(0,3,0,1)=-2",
            "writers(0,-1,0,1)=-2", "writers(0,0,0,6)=-2", "writers(0,0,0,-1)=-2", "writers(0,1,0,1)=-13",
            "writers(0,2,0,1)=-13", "writers(3,0,0,1)=-11", "writers(0,0,4,1)=-12", "writers(0,0,-1,1)=-12",
            "writers(0,0,0,0)=0", "writers(2,2,2,1)=-12");
        Script.changesNothing("P35 what is left out", RICH, "writers(2,2,1,1)=0");
        Script.changesNothing("P36 refused", RICH, "taken(0,6)=-2", "taken(0,-1)=-2", "taken(4,0)=-11", "taken(-1,0)=-11",
            "taken(0,1)=-13");
    }

    private static void noRoom() {
        Script.changesNothing("P4 FULL", FULL, "word(2,111)=-4", "word(4,1)=-2", "word(0,0)=-2");
        Script.changesNothing("P5 FULL", FULL, "writer(3,0,1)=-4", "writer(4,0,0)=-2");
        Script.changesNothing("P6 FULL", FULL, "law(0,0)=-4", "law(6,0)=-2");
        Script.changesNothing("P35 no room", FULL + " sheet(0,0,3)", "writers(0,0,0,1)=0", "writers(0,0,1,1)=-12");
    }

    private static void fullTape() {
        StringBuilder full = new StringBuilder("adds 7;worth 7;may 1;");
        while (full.length() < 160) full.append('\n');
        StringBuilder fed = new StringBuilder("word(0,1)");
        for (int i = 0; i < full.length(); i++) fed.append(" feed(").append((int) full.charAt(i)).append(')');
        Script.changesNothing("P8 FULL", fed.toString(), "feed(97)=-4", "feed(32)=-4", "feed(256)=-2");
    }

    private static void asking() {
        Script.changesNothing("P3 told", RICH, "told(0,0)=9", "told(0,1)=0", "told(1,2)=6", "told(0,3)=70", "told(1,4)=3",
            "told(2,5)=5", "told(2,6)=1", "told(0,7)=3");
        Script.changesNothing("P11 costs", RICH, "costs(0,0)", "costs(3,23)");
        Script.changesNothing("P14 cheapest", RICH, "cheapest(0,0,0)", "cheapest(1,23,1)", "cheapest(3,0,0)=-1");
        Script.changesNothing("P15 day", RICH, "day(0,0)", "day(3,1)", "day(2,2)");
        Script.changesNothing("P16 all", RICH, "all(0)", "all(1)", "all(2)", "all(3)");
        Script.changesNothing("P17 when", RICH, "when(0,0)", "when(3,1)");
        Script.changesNothing("P19 rest", RICH, "rest()");
        Script.changesNothing("P20 turns", RICH, "turns(0)", "turns(1)");
        Script.changesNothing("P21 burn", RICH, "burn(0,20)", "burn(7,1)");
        Script.changesNothing("P22 worst", RICH, "worst(20,0)", "worst(1,1)");
        Script.changesNothing("P23 best", RICH, "best(0)", "best(1)", "best(2)");
        Script.changesNothing("P24 judge", RICH + " sheet(3,2,4)", "judge(2)", "judge(3)");
        Script.changesNothing("P25 fits", RICH, "fits(0,30)", "fits(3,9999)=0");
        Script.changesNothing("P26 whose", RICH + " sheet(3,2,4)", "whose(2)", "whose(3)");
        Script.changesNothing("P27 drawn", RICH, "drawn(0)", "drawn(-1)");
        Script.changesNothing("P28 chance", RICH, "chance(0,20,0)", "chance(2147483647,20,1)");
        Script.changesNothing("P31 count", RICH, "count(0)=4", "count(1)=4", "count(2)=4", "count(3)=2", "count(4)=3",
            "count(5)=2", "count(6)=2", "count(7)=44");
        Script.changesNothing("P36 taken", RICH, "taken(0,0)=1", "taken(3,1)=1", "taken(1,2)=3");
    }

    private static boolean alike(String one, String other) {
        DearerByUse x = new DearerByUse();
        DearerByUse y = new DearerByUse();
        Script.go(x, "a look", RICH, one);
        Script.go(y, "a look", RICH, other);
        return Look.at(x).equals(Look.at(y));
    }

    /** The look that the tests above trust must see what is changed. */
    private static void whatIsSeen() {
        String[] changes = {"set(0,0,10)", "set(0,7,3)", "set(1,0,1)", "set(2,3,2)", "set(3,2,8)", "set(4,0,2)", "set(4,3,2)", "word(0,1)",
            "writer(0,0,0)", "law(0,0)", "rule(0)", "rule(1)", "feed(97)", "text()", "force(0)", "force(1)", "write(0,0)", "pass(1)", "choose(0)",
            "image()", "back()", "sheet(3,0,0)", "sheet(0,-1,0)", "sheet(0,0,6)", "sheet(1,2,3)", "sheet(2,2,5)", "cell(0,0,2)", "cell(0,5,1)",
            "cell(1,2,7)", "copy(0,0,0,3,1)", "copy(0,3,0,0,2)", "writers(0,0,0,1)"};
        Checks.due("nothing is changed", alike("", "count(0)") ? 1 : 0, 1);
        for (String change : changes) Checks.due("seen: " + change, alike("", change) ? 1 : 0, 0);
    }

    private static void whatStoodAheadCame() {
        Script.holds("P35 -12 alone leaves what stood ahead", RICH, "writers(0,0,3,2)=-12 count(1)=5 told(4,1)=2",
            "told(4,2)=22 told(4,3)=122");
        Script.holds("P29 an image is never refused", RICH, "image()=4 image()=4");
        Script.holds("P19 rest is never refused", "rest()=1");
        Script.holds("P27 a seed is never refused", RICH, "drawn(-2147483648) drawn(2147483647) drawn(0)");
    }
}
