/** Promises 8 to 10: feed, text, force; the grammar, its FAULTS, and what a TEXT comes to. */
public final class TextsTest {
    public static void main(String[] args) {
        feeding();
        rightTexts();
        faults();
        leftBehind();
        tooDeep();
        sixTexts();
        forcing();
        values();
        bounds();
        namesOfASaying();
        Checks.end("TextsTest");
    }

    private static void feeding() {
        DearerByUse x = new DearerByUse();
        Checks.due("feed(-1)", x.feed(-1), -2);
        Checks.due("feed(256)", x.feed(256), -2);
        Checks.due("feed(0)", x.feed(0), 1);
        Checks.due("feed(255)", x.feed(255), 2);
        for (int i = 3; i <= 160; i++) Checks.due("feed(32)", x.feed(32), i);
        Checks.due("feed(32)", x.feed(32), -4);
        Checks.due("feed(256)", x.feed(256), -2);
        Checks.due("count(5)", x.count(5), 160);
        Checks.due("text() of a byte 0", x.text(), -100);
        Checks.due("empty by a fault", x.count(5), 0);
        Checks.due("feed(97)", x.feed(97), 1);
    }

    private static void right(String text) {
        DearerByUse x = new DearerByUse();
        Checks.due("text() of " + text, Checks.text(x, text), 1);
        Checks.due("empty by a text", x.count(5), 0);
        Checks.due("texts", x.count(4), 2);
        Checks.due("no rule yet", x.count(6), 0);
    }

    private static void wrong(String text, int place) {
        DearerByUse x = new DearerByUse();
        Checks.due("text() of " + text, Checks.text(x, text), -100 - place);
        Checks.due("empty by a fault", x.count(5), 0);
        Checks.due("texts", x.count(4), 1);
    }

    /** Faults within what adds tells: place is told from the text's start. */
    private static void wrongE(String e, int place) {
        wrong("adds " + e + ";worth 0;may 1;", 5 + place);
    }

    private static void rightE(String e) {
        right("adds " + e + ";worth 0;may 1;");
    }

    private static void rightTexts() {
        right("adds 0;worth 0;may 0;");
        right("  \n adds\n0 ; worth 50 - length ; may 1 ; \n ");
        right("adds0;worth0;may0;");
        rightE("9999");
        rightE("0000");
        rightE("used+hour+letter+length+purse+many");
        rightE("not not used<3 or 1 and not 0=0");
        rightE("1<2 and 2<3 or 3=4");
        rightE("- - - - - 1");
        rightE("not not not not not 1");
        rightE("(((((1)))))");
        rightE("not(-(not 1))");
        rightE("(1)*(2)+-(3)*-4--5");
        rightE("not 1 or not 1 or not 1 or not 1 or not 1 or not 1 or not 1");
        rightE("-1*-1*-1*-1*-1*-1*-1*-1");
        rightE("(1)+(1)+(1)+(1)+(1)+(1)+(1)");
        StringBuilder full = new StringBuilder("adds 1;worth 1;may  1");
        while (full.length() < 159) full.append("+1");
        Checks.due("a full tape", full.append(';').length(), 160);
        right(full.toString());
    }

    private static void faults() {
        wrong("", 0);
        wrong("   ", 3);
        wrong("\n\n", 2);
        wrong("adds", 4);
        wrong("adds ", 5);
        wrong("adds 1", 6);
        wrong("adds 1 ; worth 1 ; may 1", 24);
        wrong("adds 1 ; worth 1 ; may 1  \n", 27);
        wrong("adds 1;worth 1;may 1;;", 21);
        wrong("adds 1;worth 1;may 1; x", 22);
        wrong("adds 1;worth 1;may 1; adds", 22);
        wrong("adds 1;may 1;worth 1;", 7);
        wrong("worth 1;adds 1;may 1;", 0);
        wrong("used", 0);
        wrong("adds 1;adds 1;may 1;", 7);
        wrong("Adds 1;", 0);
        wrong("add 1;", 0);
        wrong("addsx 1;", 0);
        wrong("addsused;", 0);
        wrong(" adds ;", 6);
        wrongE("12345", 0);
        wrongE("1+00001", 2);
        wrongE("1 2", 2);
        wrongE("used hour", 5);
        wrongE("2used", 1);
        wrongE("used1", 4);
        wrongE("useds", 0);
        wrongE("use", 0);
        wrongE("hours+1", 0);
        wrongE("lettera", 0);
        wrongE("adds", 0);
        wrongE("1+", 2);
        wrongE("1+ ", 3);
        wrongE("+1", 0);
        wrongE("*1", 0);
        wrongE("<1", 0);
        wrongE("1<2<3", 3);
        wrongE("1=2<3", 3);
        wrongE("1<not 1", 2);
        wrongE("1+not 1", 2);
        wrongE("-not 1", 1);
        wrongE("1 not 1", 2);
        wrongE("or 1", 0);
        wrongE("1 or", 4);
        wrongE("1 or or 1", 5);
        wrongE("1 and or 1", 6);
        wrongE("()", 1);
        wrongE("(1", 2);
        wrongE("(1;", 2);
        wrongE("1)", 1);
        wrongE("(1))", 3);
        wrongE("(1 2)", 3);
        wrongE("#", 0);
        wrongE("1 #", 2);
        wrongE("1/2", 1);
        wrongE("1>2", 1);
        wrongE("1\t", 1);
        wrongE("1\r", 1);
        wrongE("\u00ff", 0);
        wrongE("used_", 4);
        wrongE("usedz", 0);
        wrongE("-x", 1);
        wrongE("not x", 4);
        wrongE("(x", 1);
        wrongE("1+-x*2", 3);
        wrongE("USED", 0);
        // What comes first is told, though more is wrong behind it.
        wrongE("1 2 # 12345 (", 2);
        wrongE("12345 ((((((", 0);
        wrongE(") #", 0);
    }

    /** What an earlier, longer text left behind on the tape is not read. */
    private static void leftBehind() {
        String[][] texts = {{"addssss", "adds"}, {"adds used", "adds use"}, {"adds 12345", "adds 1234"}, {"adds 1;;", "adds 1"}};
        int[] places = {4, 5, 9, 6};
        for (int i = 0; i < texts.length; i++) {
            DearerByUse x = new DearerByUse();
            Checks.text(x, texts[i][0]);
            Checks.due("text() of " + texts[i][1], Checks.text(x, texts[i][1]), -100 - places[i]);
        }
        String blanks = " ".repeat(150);
        wrong(blanks + "adds  used", 160);
        wrong(blanks + "adds  1234", 160);
        wrong(blanks + "adds      ", 160);
        wrong(blanks + "adds     -", 160);
        wrong(blanks + "addsaddsad", 150);
        wrong(blanks + "adds   use", 157);
    }

    private static void tooDeep() {
        wrongE("- - - - - - 1", 10);
        wrongE("not not not not not not 1", 20);
        wrongE("((((((1))))))", 5);
        wrongE("not(-(not(1)))", 9);
        wrongE("((((((#", 5);
        wrongE("(((((-1)))))", 5);
        wrongE("(((((not 1)))))", 5);
        wrongE("(((((1+-1)))))", 7);
        wrongE("(((((1-1)))))+((((((1))))))", 19);
        wrongE("not not not not not (1)", 20);
        wrongE("-----(1)", 5);
        rightE("(((((1-1)))))+(((((1)))))");
        rightE("((((-1+-2*-3))))");
        rightE("((((not 1 and not 2 or not 3))))");
        rightE("not not not not not 1 and not not not not not 0");
        rightE("(-(1)+-(2))*((((1))))");
    }

    private static void sixTexts() {
        DearerByUse x = new DearerByUse();
        for (int i = 1; i < 6; i++) Checks.due("text", Checks.text(x, "adds " + i + ";worth 0;may 1;"), i);
        x.feed('a');
        Checks.due("no room, ahead of a fault", x.text(), -4);
        Checks.due("the tape stays", x.count(5), 1);
        Checks.due("texts", x.count(4), 6);
        Checks.due("feed", x.feed('b'), 2);
        x.word(0, 1);
        for (int i = 5; i >= 0; i--) {
            x.force(i);
            Checks.due("costs by text " + i, x.costs(0, 0), 1 + i);
        }
    }

    private static void forcing() {
        DearerByUse x = new DearerByUse();
        Checks.due("force(1)", x.force(1), -2);
        Checks.due("force(-1)", x.force(-1), -2);
        Checks.text(x, "adds 7;worth 0;may 1;");
        Checks.due("force(1)", x.force(1), 0);
        Checks.due("force(2)", x.force(2), -2);
        Checks.due("count(6)", x.count(6), 1);
        Checks.due("force(1)", x.force(1), 1);
        x.word(0, 1);
        Checks.due("costs", x.costs(0, 0), 8);
        Checks.due("force(0)", x.force(0), 1);
        Checks.due("costs", x.costs(0, 0), 1);
    }

    /** What adds comes to at an hour, by a word of letter c that was USED u times. */
    private static int adds(String e, int hour, int u) {
        DearerByUse x = new DearerByUse();
        x.set(4, 0, 0);
        x.set(0, 2, u);
        x.word(0, 3);
        Checks.ruled(x, "adds " + e + ";worth 0;may 1;");
        return x.costs(0, hour) - u;
    }

    private static void values() {
        Object[][] due = {{"1+2*3", 7}, {"(1+2)*3", 9}, {"9-2-3", 4}, {"9-(2-3)", 10}, {"2*-3+10", 4}, {"-2*-3", 6},
            {"--5", 5}, {"10--5", 15}, {"used", 40}, {"hour", 13}, {"letter", 2}, {"length", 0}, {"purse", 0},
            {"many", 0}, {"used-hour*letter", 14}, {"1<2", 1}, {"2<2", 0}, {"2<1", 0}, {"2=2", 1}, {"2=3", 0},
            {"-1<0", 1}, {"1+1<3", 1}, {"3<1+1", 0}, {"not 0", 1}, {"not 1", 0}, {"not 7", 0}, {"not not 7", 1},
            {"not -1", 0}, {"not 1<2", 0}, {"not 2<1", 1}, {"5 or 0", 1}, {"0 or 0", 0}, {"0 or 5", 1}, {"5 or 6", 1},
            {"5 and 6", 1}, {"5 and 0", 0}, {"0 and 6", 0}, {"0 and 0", 0}, {"1 or 1 and 0", 1}, {"(1 or 1) and 0", 0},
            {"not 0 and 0", 0}, {"not (0 and 0)", 1}, {"not 1 or 1", 1}, {"not (1 or 1)", 0}, {"(5 or 0)*9", 9},
            {"(1<2)+(2<3)+(3<4)", 3}, {"0 or 0 or 3", 1}, {"1 and 2 and 0", 0}, {"0-1 or 0", 1}, {"(-5)*-5", 25},
            {"-(2+3)+20", 15}, {"9999-9990", 9}, {"0012", 12}, {"hour=13 and letter=2", 1}, {"used < 41 and 39 < used", 1},
            // 2 to the 32nd is 0; 65536 * 32768 is the least int, whose negative it is itself.
            {"4096*4096*256", 0}, {"4096*4096*128<0", 1}, {"-(4096*4096*128)<0", 1}, {"4096*4096*128-1<0", 0},
            {"4096*4096*256+5", 5}, {"9999*9999*9999<0", 9999 * 9999 * 9999 < 0 ? 1 : 0}};
        for (Object[] d : due) Checks.due("adds " + d[0], adds((String) d[0], 13, 40), (Integer) d[1]);
        // The stack at its fullest: five operands wait in each of six levels.
        String deep = "0 or 1 and 1=0+1*(0 or 1 and 1=0+1*(0 or 1 and 1=0+1*(0 or 1 and 1=0+1*(0 or 1 and 1=0+1*("
            + "0 or 1 and 1=0+1*1)))))";
        Checks.due("adds " + deep, adds(deep, 0, 0), 1);
        String denied = deep.replace("1*1)", "1*2)");
        Checks.due("adds " + denied, adds(denied, 0, 0), 0);
    }

    private static void bounds() {
        Checks.due("adds 99", adds("99", 0, 0), 99);
        Checks.due("adds 100", adds("100", 0, 0), 99);
        Checks.due("adds 0-1", adds("0-1", 0, 0), 0);
        Checks.due("adds the most int", adds("4096*4096*128-1", 0, 0), 99);
        Checks.due("adds the least int", adds("4096*4096*128", 0, 0), 0);
        String[] worths = {"999", "1000", "0", "0-1", "4096*4096*128-1", "4096*4096*128", "500"};
        int[] bounded = {999, 999, 0, 0, 999, 0, 500};
        for (int i = 0; i < worths.length; i++) {
            DearerByUse x = new DearerByUse();
            x.word(0, 1);
            x.writer(0, 0, 5);
            Checks.ruled(x, "adds 0;worth " + worths[i] + ";may 1;");
            Checks.due("worth " + worths[i], x.day(0, 2), bounded[i] - 1);
        }
    }

    private static void namesOfASaying() {
        String[] names = {"used", "hour", "letter", "length", "purse", "many"};
        int[] values = {0, 17, 0, 3, 321, 2};
        for (int i = 0; i < names.length; i++) {
            DearerByUse x = new DearerByUse();
            for (int letter = 0; letter < 8; letter++) x.set(0, letter, 9);
            x.word(1, 777);
            x.writer(1, 17, 321);
            x.writer(2, 3, 4);
            Checks.ruled(x, "adds 0;worth " + names[i] + ";may " + names[i] + "=" + values[i] + ";");
            int paid = 10 + 11 + 12;
            Checks.due("worth " + names[i], x.day(0, 2), values[i] - paid);
            Checks.ruled(x, "adds 0;worth 0;may " + names[i] + "=" + (values[i] + 1) + ";");
            Checks.due("may not by " + names[i], x.day(0, 1), -1);
            Checks.ruled(x, "adds 0;worth 0;may -9;");
            Checks.due("may by what is not 0", x.day(0, 1), 0);
        }
    }
}
