/** Every sentence of the document's Terms 1 that names a bound: COSTS, AGES, TOKENS, FAULT, what names tell, the ints. */
public final class BoundsOfTermsTest {
    private static final String MOST = "4096*4096*128-1", LEAST = "4096*4096*128";

    public static void main(String[] args) {
        costsByLaws();
        costsBySteepOnes();
        costsThroughAWord();
        ages();
        everyByteBehindANumber();
        everyByteAheadOfANumber();
        tokensAreAsLongAsCanBe();
        numbersOfFourDigits();
        whatIsNoToken();
        behindTheEnd();
        endsTooEarly();
        fiveOpen();
        whatIsOpenEnds();
        oneOfEach();
        wrapping();
        truths();
        namesOfAUse();
        namesOfASaying();
        boundsOfAdds();
        boundsOfWorth();
        boundsOfMay();
        textZero();
        Checks.end("BoundsOfTermsTest");
    }

    private static void costsByLaws() {
        Script.holds("T1 COSTS of a LAW are u and NUMBER", "word(0,1) set(4,0,0) costs(0,0)=0 set(0,0,999) costs(0,23)=999",
            "set(4,0,9) costs(0,0)=1008 set(0,0,0) costs(0,0)=9");
        Script.holds("T1 COSTS of a FLAT are half of a LAW's, cut", "word(0,1) law(2,0)=1 rule(1) costs(0,0)=0 set(0,0,1)",
            "costs(0,0)=0 set(0,0,2) costs(0,0)=1 set(0,0,3) costs(0,0)=1 set(0,0,999) costs(0,0)=499 set(4,1,9)",
            "costs(0,0)=504 set(0,0,0) costs(0,0)=4 set(0,0,1) costs(0,23)=5");
        Script.holds("T1 COSTS of a NIGHT are 0 at HOURS 0 .. 5", "word(0,1) law(4,9)=1 rule(1) set(0,0,999) costs(0,0)=0",
            "costs(0,1)=0 costs(0,4)=0 costs(0,5)=0");
        Script.holds("T1 COSTS of a NIGHT are a FLAT's from HOUR 6 on", "word(0,1) law(4,9)=1 rule(1) set(0,0,999)",
            "costs(0,6)=504 costs(0,7)=504 costs(0,23)=504 set(0,0,0) set(4,1,1) costs(0,6)=0 set(0,0,1) costs(0,6)=1");
    }

    private static void costsBySteepOnes() {
        Script.holds("T1 COSTS of a STEEP are u times (NUMBER and 1) more", "word(0,1) law(1,0)=1 rule(1) costs(0,0)=0",
            "set(0,0,1) costs(0,0)=2 set(0,0,999) costs(0,0)=1998 set(4,1,9) costs(0,0)=10998 set(0,0,1) costs(0,0)=20",
            "set(0,0,0) costs(0,0)=9");
        Script.holds("T1 COSTS of a STEPS are told by u less (u modulo 3)", "word(0,1) law(3,0)=1 rule(1) costs(0,0)=0",
            "set(0,0,1) costs(0,0)=0 set(0,0,2) costs(0,0)=0 set(0,0,3) costs(0,0)=6 set(0,0,4) costs(0,0)=6 set(0,0,5)",
            "costs(0,0)=6 set(0,0,6) costs(0,0)=12 set(0,0,998) costs(0,0)=1992 set(0,0,999) costs(0,0)=1998 set(4,1,9)",
            "costs(0,0)=10998 set(0,0,2) costs(0,0)=9 set(0,0,3) costs(0,0)=42 set(0,0,5) costs(0,0)=42");
        Script.holds("T1 COSTS of a RARE are 5 more if u is 0", "word(0,1) law(5,0)=1 rule(1) costs(0,0)=5 set(4,1,9)",
            "costs(0,0)=14");
        Script.holds("T1 COSTS of a RARE are a STEEP's if u is not 0", "word(0,1) law(5,0)=1 rule(1) set(0,0,1)",
            "costs(0,0)=2 set(4,1,9) costs(0,0)=20 set(0,0,999) costs(0,0)=10998");
    }

    private static void costsThroughAWord() {
        Script.holds("T2 LETTER by LETTER, behind each it is USED 1 more", "word(0,111111) costs(0,0)=21 word(0,121212)",
            "costs(1,0)=12 word(0,123456) costs(2,0)=6");
        Script.holds("T2 999 at most, through a WORD", "word(0,111111) set(4,0,0) set(0,0,996) costs(0,0)=5988",
            "set(0,0,998) costs(0,0)=5993 set(0,0,999) costs(0,0)=5994 told(0,0)=999");
        Script.holds("T1 STEPS rise within a WORD", "word(0,1111) law(3,0)=1 rule(1) costs(0,0)=6 set(0,0,2)",
            "costs(0,0)=18");
        Script.holds("T1 RARE is dear once within a WORD", "word(0,11) law(5,0)=1 rule(1) costs(0,0)=7 set(0,0,1)",
            "costs(0,0)=6");
        Script.holds("T1 NIGHT by half hours of a WORD", "word(0,111) law(4,0)=1 rule(1) costs(0,5)=0 costs(0,6)=1");
        Script.holds("T1 adds come to the 0 of a NIGHT", "word(0,11) law(4,9)=1 rule(1) 'adds 7;worth 0;may 1;'=1 force(1)",
            "costs(0,5)=14 costs(0,6)=23");
        Script.holds("T1 adds are told what was USED, 999 at most", "word(0,11) set(4,0,0) set(0,0,998)",
            "'adds used-900;worth 0;may 1;'=1 force(1) costs(0,0)=2194 set(0,0,999) costs(0,0)=2196");
    }

    private static void ages() {
        String letters = "set(0,0,999) set(0,1,10) set(0,2,9) set(0,3,8) set(0,4,1) set(0,5,0)";
        Script.holds("T1 AGES of a LAW are u", letters, "set(4,0,9) pass(1)=1027 pass(24)=1027 told(0,0)=999 told(4,0)=1");
        Script.holds("T1 AGES of a STEEP are a LAW's", letters, "law(1,9)=1 rule(1) pass(1)=1027 pass(24)=1027",
            "told(5,0)=0");
        Script.holds("T1 AGES of a FLAT are u less NUMBER, 0 at least", letters, "law(2,9)=1 rule(1) pass(1)=991",
            "told(0,0)=990 told(1,0)=1 told(2,0)=0 told(3,0)=0 told(4,0)=0 told(5,0)=0 pass(1)=981");
        Script.holds("T1 AGES of a FLAT of NUMBER 0 are u", letters, "law(2,0)=1 rule(1) pass(24)=1027");
        Script.holds("T1 AGES of a FLAT of NUMBER 1", letters, "law(2,1)=1 rule(1) pass(1)=1022 told(0,0)=998 told(4,0)=0");
        Script.holds("T1 AGES of a STEPS are 1 less, 0 at least", letters, "law(3,9)=1 rule(1) pass(1)=1022 told(0,0)=998",
            "told(1,0)=9 told(4,0)=0 told(5,0)=0 set(4,1,0) pass(1)=1018");
        Script.holds("T1 AGES of a NIGHT are a FLAT's", letters, "law(4,9)=1 rule(1) pass(1)=991 told(1,0)=1 told(2,0)=0",
            "told(3,0)=0 set(4,1,0) pass(24)=991");
        Script.holds("T1 AGES of a RARE are 0 if u is below NUMBER", letters, "law(5,9)=1 rule(1) pass(1)=1018 told(3,0)=0",
            "told(4,0)=0 told(5,0)=0");
        Script.holds("T1 AGES of a RARE are u from NUMBER on", letters, "law(5,9)=1 rule(1) pass(24)=1018 told(0,0)=999",
            "told(1,0)=10 told(2,0)=9 set(4,1,0) set(0,4,1) pass(24)=1019 set(4,1,1) pass(24)=1019 set(4,1,2)",
            "pass(1)=1018");
    }

    /** What text() should answer if a byte stands in a text's place: NUMBER, blank, sign, or none of them. */
    private static void byteIn(String ahead, int b, String behind, int due) {
        DearerByUse x = new DearerByUse();
        Checks.feed(x, ahead);
        x.feed(b);
        Checks.feed(x, behind);
        Checks.due("text() with a byte " + b + " behind " + ahead, x.text(), due);
    }

    private static void everyByteBehindANumber() {
        for (int b = 0; b < 256; b++) {
            int due = -106;
            if (b == 32 || b == 10 || b >= '0' && b <= '9') due = 1;
            else if (";+-*<=".indexOf(b) >= 0) due = -107;
            byteIn("adds 1", b, ";worth 0;may 1;", due);
        }
    }

    private static void everyByteAheadOfANumber() {
        for (int b = 0; b < 256; b++) {
            int due = -105;
            if (b == 32 || b == 10 || b >= '0' && b <= '9' || b == '-') due = 1;
            else if (b == '(') due = -107;
            byteIn("adds ", b, "1;worth 0;may 1;", due);
            byteIn("", b, "adds 1;worth 0;may 1;", b == 32 || b == 10 ? 1 : -100);
            byteIn("adds 1;worth 0;may 1;", b, "", b == 32 || b == 10 ? 1 : -121);
        }
    }

    /** Told of an E behind "adds ": the place of its FAULT, or none. */
    private static void fault(String e, int place) {
        Script.holds("T1 FAULT", "'adds " + e + ";worth 0;may 1;'=" + (-105 - place) + " count(5)=0 count(4)=1");
    }

    private static void right(String e) {
        Script.holds("T1 TEXT",
            "'adds " + e + ";worth 0;may 1;'=1 'adds 0;worth " + e + ";may 1;'=2 'adds 0;worth 0;may " + e + ";'=3 count(5)=0 count(4)=4 count(6)=0");
    }

    private static void tokensAreAsLongAsCanBe() {
        String[] names = {"used", "hour", "letter", "length", "purse", "many"};
        for (String name : names) {
            right(name);
            right("1 <" + name + "+" + name + " or not " + name);
            fault(name + name, 0);
            fault(name + "x", 0);
            fault("x" + name, 0);
            fault(name.substring(1), 0);
            fault(name.substring(0, name.length() - 1), 0);
            fault(name + "1", name.length());
            fault("1" + name, 1);
            fault(name + " " + name, name.length() + 1);
        }
        String[] keys = {"adds", "worth", "may", "or", "and"};
        for (String key : keys) {
            fault(key + " 1", 0);
            fault(key + "1", 0);
        }
        fault("1 adds 1", 2);
        fault("1 worth 1", 2);
        fault("1 may 1", 2);
        fault("1 not 1", 2);
        fault("not1not1", 4);
        fault("1or1or1orr1", 7);
        fault("1ornot1", 1);
        fault("1<=2", 2);
        fault("1=<2", 2);
        fault("1==2", 2);
        fault("1<<2", 2);
        right("1or 1and 1");
        right("1or(1)and(1)or not(1)");
        right("1<2or 3=4and not 5<6");
        right("not1");
        right("not many");
        fault("notmany", 0);
        fault("a", 0);
        fault("z", 0);
        fault("usedz", 0);
        fault("useda", 0);
    }

    private static void numbersOfFourDigits() {
        right("0");
        right("9999");
        right("0000");
        right("1234+0099");
        fault("10000", 0);
        fault("00000", 0);
        fault("99999", 0);
        fault("1234567890", 0);
        fault("1+12345", 2);
        fault("1234 5", 5);
        fault("1234\n5", 5);
        fault("(12345)", 1);
    }

    /** What is no TOKEN can stand nowhere, and what stood ahead of it is not read twice. */
    private static void whatIsNoToken() {
        String[] aheads = {"", "1 ", "used ", "(", "((", "-", "--", "not ", "not not ", "1+", "1-", "1*", "1<", "1=", "1 or ", "1 and ", "(1)"};
        String[] none = {"x", "ad", "addsx", "ornot", "12345", "00000", "#", "!", "A", "_"};
        for (String ahead : aheads) {
            for (String token : none) {
                fault(ahead + token, ahead.length());
                fault(ahead + token + " 1", ahead.length());
                fault(ahead + token + " used)", ahead.length());
            }
        }
    }

    /** What is behind THE TAPE's end is not read: neither the room's end nor what an earlier one left there. */
    private static void behindTheEnd() {
        String blanks = " ".repeat(150);
        Script.holds("P9 a WORD at the 160th byte", "'" + blanks + "adds   use'=-257", "'" + blanks + "adds  used'=-260");
        Script.holds("P9 a WORD at the 160th byte", "'" + blanks + "        ad'=-258", "'" + blanks + "      adds'=-260");
        Script.holds("P9 a NUMBER at the 160th byte", "'" + blanks + "adds  1234'=-260", "'" + blanks + "adds 12345'=-255");
        Script.holds("P9 a WORD that was longer", "'adds used'=-109 'adds use'=-105 'adds used'=-109 'addsused'=-100",
            "'adds'=-104 'add'=-100");
        Script.holds("P9 a NUMBER that was longer", "'adds 12345'=-105 'adds 1234'=-109 'adds 1;worth 0;may 1;;'=-121",
            "'adds 1;worth 0;may 1;'=1");
        Script.holds("P9 a TEXT that was longer", "'adds 1;worth 0;may 1;'=1 'adds 1;worth 0;'=-115",
            "'adds 1;worth 0;may 1'=-120 'adds 1'=-106");
    }

    private static void endsTooEarly() {
        String whole = "adds 1;worth(2);may not 3<-4;";
        for (int size = 0; size < whole.length(); size++) {
            String part = whole.substring(0, size);
            // Where a word is cut, it is another word, which is neither key nor name.
            String last = part.replaceAll("^.*[^a-z]", "");
            boolean cut = !last.isEmpty() && !last.matches("adds|worth|may|not");
            Script.holds("P9 the text's size, if it ends too early",
                "'" + part + "'=" + (-100 - (cut ? size - last.length() : size)) + " count(5)=0",
                "'" + part + " \n'=" + (-100 - (cut ? size - last.length() : size + 2)));
        }
        Script.holds("P9 a whole text", "'" + whole + "'=1");
        Script.holds("P9 a text of nothing", "text()=-100 '   '=-103 '\n'=-101");
        String blanks = " ".repeat(156);
        Script.holds("P9 a full tape that ends too early", "'" + blanks + "adds'=-260 count(5)=0 '" + blanks + "    '=-260");
        Script.holds("P9 a full tape whose last byte can't stand", "'" + blanks + " a=b'=-257 '" + blanks.substring(3)
            + "adds 1x'=-259");
    }

    private static void fiveOpen() {
        right("(((((1)))))");
        fault("((((((1))))))", 5);
        right("-----1");
        fault("------1", 5);
        right("not not not not not 1");
        fault("not not not not not not 1", 20);
        // The last of six, whatever it is.
        String[] opens = {"(", "-", "not "};
        for (String a : opens) {
            for (String b : opens) {
                String ahead = a.repeat(1) + "(" + "(" + "(" + b;
                String close = (a.equals("(") ? ")" : "") + ")))" + (b.equals("(") ? ")" : "");
                right(ahead + "1" + close);
                fault(ahead + "(1)" + close, ahead.length());
                fault(ahead + "-1" + close, ahead.length());
                // not can't stand behind -, wherever it is.
                fault(ahead + "not 1" + close, ahead.length());
            }
        }
        // What can't stand is told by its place, too, if it stands ahead of the sixth.
        fault("(((()((", 4);
        fault("((((((", 5);
        fault("(((((#", 5);
    }

    private static void whatIsOpenEnds() {
        right("(((((1)))))+(((((1)))))");
        right("(1)+(2)+(3)+(4)+(5)+(6)+(7)");
        right("-1-(-1)-(-(-1))");
        right("-----1*-----1+-----1--1");
        right("-----1*(1)");
        right("-----1+(((((1)))))");
        right("not not not not not 1 and not 1");
        right("not not not not not 1<1 or not not not not not 1");
        fault("not not not not not 1<(1)", 22);
        fault("not not not not not 1<-1", 22);
        fault("not not not not not 1=1+-1", 24);
        fault("not not not not not 1*-1", 22);
        right("not not not not 1=-1");
        right("((((not 1 and not 1))))");
        right("((((-1*-1+-1))))");
        fault("((((--1))))", 5);
        right("(((((1-1-1)))))");
        fault("(((((1-1--1)))))", 9);
        fault("(((((not 1)))))", 5);
        Script.holds("P9 all is closed between parts", "'adds(((((1)))));worth(((((1)))));may(((((1)))));'=1");
        Script.holds("P9 all is closed behind a FAULT", "'adds(((((;'=-109 'adds(((((1)))));worth 0;may 0;'=1");
    }

    private static void oneOfEach() {
        right("1<2");
        right("1=2");
        fault("1<2<3", 3);
        fault("1<2=3", 3);
        fault("1=2<3", 3);
        fault("1=2=3", 3);
        right("(1<2)<3");
        right("1<2 and 2<3");
        fault("1<not 2", 2);
        fault("not", 3);
        fault("not not", 7);
        fault("1 and", 5);
        fault("1 or", 4);
        fault("1+", 2);
        fault("1-", 2);
        fault("1*", 2);
        fault("1<", 2);
        fault("1=", 2);
        fault("", 0);
        fault("()", 1);
        fault("(", 1);
        fault(")", 0);
        fault("1)", 1);
        fault("(1", 2);
        fault("(1;)", 2);
        fault("2*not 1", 2);
        fault("1 2", 2);
        fault("(1)(2)", 3);
        fault("(1)2", 3);
        fault("+1", 0);
        fault("1++1", 2);
        right("1+-1");
        fault("1-+1", 2);
        fault("1**1", 2);
        right("1*-1");
        Script.holds("P9 no part is missing or comes twice", "'adds 1;'=-107 'adds 1;worth 1;'=-115 'adds 1;adds 1;'=-107",
            "'worth 1;'=-100 'may 1;'=-100 'adds 1;may 1;'=-107 'adds 1;worth 1;adds 1;'=-115",
            "'adds 1;worth 1;worth 1;'=-115 'adds 1;worth 1;may 1;adds 1;'=-121 'adds 1;worth 1;may 1;;'=-121",
            "'adds;'=-104 ';'=-100 'adds 1;worth 1;may 1'=-120");
    }

    /** What adds comes to, as it is bounded by 0 and 99, at HOUR 11 for a letter c that was USED 21 times. */
    private static void comes(String e, int due) {
        Script.holds("T1 what an E is", "word(0,3) set(4,0,0) set(0,2,21) 'adds " + e + ";worth 0;may 1;'=1 force(1)",
            "costs(0,11)=" + (21 + due));
    }

    private static void wrapping() {
        comes(MOST, 99);
        comes(LEAST, 0);
        comes(MOST + "+1", 0);
        comes("0-(" + LEAST + ")", 0);
        comes("-(" + LEAST + ")", 0);
        comes("-(" + MOST + ")", 0);
        comes(LEAST + "-1", 99);
        comes("0-" + LEAST + "-1", 99);
        comes(LEAST + "*2+7", 7);
        comes("4096*4096*256+8", 8);
        comes("4096*4096*255<0", 1);
        comes("(" + MOST + ")*(" + MOST + ")", 1);
        comes("(" + LEAST + ")*(" + MOST + ")<0", 1);
        comes(LEAST + "<" + MOST, 1);
        comes(MOST + "<" + LEAST, 0);
        comes(MOST + "+1=" + LEAST, 1);
        comes(LEAST + "=" + LEAST, 1);
    }

    private static void truths() {
        int[] values = {0, 1, 2, -1};
        for (int a : values) {
            String left = a < 0 ? "-1" : "" + a;
            comes("not " + left, a == 0 ? 1 : 0);
            comes("not not " + left, a != 0 ? 1 : 0);
            for (int b : values) {
                String right = b < 0 ? "-1" : "" + b;
                comes("7+(" + left + " or " + right + ")", 7 + (a != 0 || b != 0 ? 1 : 0));
                comes("7+(" + left + " and " + right + ")", 7 + (a != 0 && b != 0 ? 1 : 0));
                comes("7+(" + left + "<" + right + ")", 7 + (a < b ? 1 : 0));
                comes("7+(" + left + "=" + right + ")", 7 + (a == b ? 1 : 0));
            }
        }
        comes("(7)", 7);
        comes("8-1", 7);
        comes("(" + MOST + "+1)and 1", 1);
        comes("(4096*4096*256)and 1", 0);
        comes("1 or 0 and 0", 1);
        comes("(1 or 0)and 0", 0);
        comes("not 0 or 1", 1);
        comes("not(0 or 1)", 0);
        comes("not 0 and 0", 0);
        comes("not 1=0", 1);
        comes("9-4-3", 2);
        comes("9-(4-3)", 8);
        comes("2+3*4", 14);
        comes("(2+3)*4", 20);
        comes("10-2*3", 4);
        comes("-2*-3", 6);
        comes("9-1+1", 9);
        // As many wait as can: five in each of six levels.
        String deep = "0 or 1 and 1=0+1*(".repeat(5) + "0 or 1 and 1=0+1*1" + ")".repeat(5);
        comes(deep, 1);
        comes(deep.replace("1*1", "1*2"), 0);
    }

    private static void namesOfAUse() {
        String state = "word(0,1) word(0,8) set(4,0,0) set(0,0,999) writer(0,5,9999)";
        Script.holds("T1 of a use, used: how often it was USED ahead", state, "'adds used=999;worth 0;may 1;'=1 force(1)",
            "costs(0,5)=1000 costs(1,5)=0 'adds used=0;worth 0;may 1;'=2 force(2) costs(0,5)=999 costs(1,5)=1");
        Script.holds("T1 of a use, hour", state, "'adds hour;worth 0;may 1;'=1 force(1) costs(1,0)=0 costs(1,23)=23");
        Script.holds("T1 of a use, letter: its number", state, "'adds letter+1;worth 0;may 1;'=1 force(1) costs(0,0)=1000",
            "costs(1,0)=8");
        Script.holds("T1 of a use, length, purse, many: 0", state, "'adds 9*length+9*purse+9*many+1;worth 0;may 1;'=1",
            "force(1) costs(1,5)=1 day(0,0)=1");
    }

    private static void namesOfASaying() {
        String use = "set(4,0,0) word(0,8) writer(0,23,9999)";
        String[] alike = {"length=1", "purse=9999", "many=1", "hour=23", "used=0", "letter=0"};
        for (String e : alike) {
            Script.holds("T1 of a saying " + e, use, "'adds 0;worth 70*(" + e + ");may 1;'=1 force(1) day(0,2)=70",
                "'adds 0;worth 0;may " + e + ";'=2 force(2) day(0,1)=0 'adds 0;worth 0;may not " + e + ";'=3 force(3) day(0,1)=-1");
        }
        Script.holds("T1 of a saying, length: 6 at most", "set(4,0,0) word(0,123456) writer(0,0,0)",
            "'adds 0;worth length;may length=6;'=1 force(1) day(0,2)=6");
        Script.holds("T1 of a saying, purse: 0 at least", "set(4,0,0) word(0,1) writer(0,0,0)",
            "'adds 0;worth purse+1;may purse=0;'=1 force(1) day(0,2)=1");
        Script.holds("T1 of a saying, purse: PURSE, whatever was paid", "word(0,1) writer(0,0,80) writer(0,1,90)",
            "'adds 0;worth purse;may purse=80 or purse=90;'=1 force(1) day(0,2)=79 day(1,2)=88");
        Script.holds("T1 of a saying, many: 5 at most", "set(4,0,0) word(0,1) writer(0,0,0) writer(1,0,0) writer(1,0,0)",
            "writer(1,0,0) writer(1,0,0) 'adds 0;worth many;may many=5;'=1 force(1) day(0,2)=5");
        Script.holds("T1 of a saying, used: 0 though LETTERS are USED", "set(4,0,0) word(0,8) set(0,7,9) writer(0,0,99)",
            "'adds 0;worth used+letter;may used=0 and letter=0;'=1 force(1) day(0,2)=-9");
    }

    private static void boundsOfAdds() {
        String[] es = {"-1", "0", "1", "98", "99", "100", "9999", MOST, LEAST};
        int[] due = {0, 0, 1, 98, 99, 99, 99, 99, 0};
        for (int i = 0; i < es.length; i++) comes(es[i], due[i]);
        Script.holds("T1 adds of each LETTER is bounded", "word(0,111) set(4,0,0) 'adds 50*used;worth 0;may 1;'=1 force(1)",
            "costs(0,0)=152 'adds 50-100*used;worth 0;may 1;'=2 force(2) costs(0,0)=53");
    }

    private static void boundsOfWorth() {
        String[] es = {"-1", "0", "1", "998", "999", "1000", "9999", MOST, LEAST};
        int[] due = {0, 0, 1, 998, 999, 999, 999, 999, 0};
        for (int i = 0; i < es.length; i++) {
            Script.holds("T1 worth " + es[i], "word(0,1) writer(0,0,1) 'adds 0;worth " + es[i] + ";may 1;'=1 force(1)",
                "day(0,2)=" + (due[i] - 1) + " all(0)=" + (due[i] - 1));
        }
    }

    private static void boundsOfMay() {
        String[] es = {"0", "1", "-1", "2", MOST, LEAST, "4096*4096*256"};
        int[] due = {-1, 0, 0, 0, 0, 0, -1};
        for (int i = 0; i < es.length; i++) {
            Script.holds("T1 may " + es[i], "word(0,1) writer(0,0,1) 'adds 0;worth 0;may " + es[i] + ";'=1 force(1)",
                "day(0,1)=" + due[i]);
        }
    }

    private static void textZero() {
        Script.holds("T1 TEXT 0 adds 0", "word(0,8) set(0,7,999) costs(0,23)=1000 costs(0,0)=1000");
        Script.holds("T1 TEXT 0 is worth 50 less length", "set(4,0,0) word(0,8) word(1,123456) writer(0,0,0)",
            "writer(1,23,0) day(0,2)=49 day(1,2)=44");
        Script.holds("T1 TEXT 0 tells that one may", "set(4,0,0) word(0,1) writer(0,0,0) day(0,1)=0");
        Script.holds("T1 TEXT 0 is THE RULE at first", "count(6)=0 count(4)=1 force(0)=0");
        Script.holds("T1 TEXT 0 can be THE RULE again", "word(0,1) 'adds 9;worth 0;may 1;'=1 force(1)=0 costs(0,0)=10",
            "force(0)=1 costs(0,0)=1");
    }
}
