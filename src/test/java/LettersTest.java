/** Promises 1 to 7: a new object, set, told, word, writer, law, rule. */
public final class LettersTest {
    public static void main(String[] args) {
        aNewObject();
        settingUsed();
        settingOfWriters();
        settingNumbers();
        telling();
        words();
        writers();
        laws();
        ruling();
        Checks.end("LettersTest");
    }

    private static void aNewObject() {
        DearerByUse x = new DearerByUse();
        int[] counts = {0, 0, 1, 0, 1, 0, 0, 0};
        for (int what = 0; what < counts.length; what++) Checks.due("count(" + what + ")", x.count(what), counts[what]);
        for (int letter = 0; letter < 8; letter++) Checks.due("told(" + letter + ", 0)", x.told(letter, 0), 0);
        Checks.due("number of law 0", x.told(0, 4), 1);
        Checks.due("kind of law 0", x.told(0, 5), 0);
        Checks.due("no writer", x.told(0, 1), -2);
        Checks.due("no word", x.told(0, 6), -2);
        Checks.due("no image", x.back(), -3);
        for (int sheet = 0; sheet < 4; sheet++) Checks.due("missing sheet", x.cell(sheet, 0, 0), -11);
        Checks.due("text 0 rules", x.force(0), 0);
    }

    private static void settingUsed() {
        DearerByUse x = new DearerByUse();
        Checks.due("set(0, 0, 999)", x.set(0, 0, 999), 0);
        Checks.due("set(0, 0, 7)", x.set(0, 0, 7), 999);
        Checks.due("set(0, 7, 1)", x.set(0, 7, 1), 0);
        Checks.due("set(0, 0, 1000)", x.set(0, 0, 1000), -2);
        Checks.due("set(0, 0, -1)", x.set(0, 0, -1), -2);
        Checks.due("set(0, 8, 0)", x.set(0, 8, 0), -2);
        Checks.due("set(0, -1, 0)", x.set(0, -1, 0), -2);
        Checks.due("set(-1, 0, 0)", x.set(-1, 0, 0), -2);
        Checks.due("set(5, 0, 0)", x.set(5, 0, 0), -2);
        Checks.due("a stays", x.told(0, 0), 7);
        Checks.due("h stays", x.told(7, 0), 1);
    }

    private static void settingOfWriters() {
        DearerByUse x = new DearerByUse();
        Checks.due("no writer yet", x.set(1, 0, 0), -2);
        x.writer(1, 2, 3);
        Checks.due("set(1, 0, 3)", x.set(1, 0, 3), 1);
        Checks.due("set(2, 0, 23)", x.set(2, 0, 23), 2);
        Checks.due("set(3, 0, 9999)", x.set(3, 0, 9999), 3);
        Checks.due("set(1, 0, 4)", x.set(1, 0, 4), -2);
        Checks.due("set(2, 0, 24)", x.set(2, 0, 24), -2);
        Checks.due("set(3, 0, 10000)", x.set(3, 0, 10000), -2);
        Checks.due("set(1, 0, -1)", x.set(1, 0, -1), -2);
        Checks.due("set(2, 0, -1)", x.set(2, 0, -1), -2);
        Checks.due("set(3, 0, -1)", x.set(3, 0, -1), -2);
        for (int what = 1; what <= 3; what++) {
            Checks.due("set(" + what + ", 1, 0)", x.set(what, 1, 0), -2);
            Checks.due("set(" + what + ", -1, 0)", x.set(what, -1, 0), -2);
        }
        Checks.due("thing", x.told(0, 1), 3);
        Checks.due("hour", x.told(0, 2), 23);
        Checks.due("purse", x.told(0, 3), 9999);
        Checks.due("set(1, 0, 0)", x.set(1, 0, 0), 3);
        Checks.due("set(2, 0, 0)", x.set(2, 0, 0), 23);
        Checks.due("set(3, 0, 0)", x.set(3, 0, 0), 9999);
    }

    private static void settingNumbers() {
        DearerByUse x = new DearerByUse();
        x.law(4, 6);
        Checks.due("set(4, 0, 9)", x.set(4, 0, 9), 1);
        Checks.due("set(4, 1, 0)", x.set(4, 1, 0), 6);
        Checks.due("set(4, 1, 10)", x.set(4, 1, 10), -2);
        Checks.due("set(4, 1, -1)", x.set(4, 1, -1), -2);
        Checks.due("set(4, 2, 0)", x.set(4, 2, 0), -2);
        Checks.due("set(4, -1, 0)", x.set(4, -1, 0), -2);
        Checks.due("number 0", x.told(0, 4), 9);
        Checks.due("number 1", x.told(1, 4), 0);
        Checks.due("kind 1", x.told(1, 5), 4);
    }

    private static void telling() {
        DearerByUse x = new DearerByUse();
        x.word(2, 12345);
        x.word(3, 8);
        x.writer(1, 22, 333);
        x.law(5, 7);
        x.set(0, 3, 44);
        int[][] due = {{3, 0, 44}, {0, 1, 1}, {0, 2, 22}, {0, 3, 333}, {1, 4, 7}, {1, 5, 5}, {0, 6, 2}, {1, 6, 3},
            {0, 7, 5}, {1, 7, 1}, {8, 0, -2}, {1, 1, -2}, {1, 2, -2}, {1, 3, -2}, {2, 4, -2}, {2, 5, -2}, {2, 6, -2},
            {2, 7, -2}, {0, 8, -2}, {0, -1, -2}};
        for (int[] d : due) Checks.due("told(" + d[0] + ", " + d[1] + ")", x.told(d[0], d[1]), d[2]);
        for (int what = 0; what < 8; what++) {
            Checks.due("told(-1, " + what + ")", x.told(-1, what), -2);
            Checks.due("told(least, " + what + ")", x.told(Integer.MIN_VALUE, what), -2);
            Checks.due("told(most, " + what + ")", x.told(Integer.MAX_VALUE, what), -2);
        }
    }

    private static void words() {
        DearerByUse x = new DearerByUse();
        int[] wrong = {0, 9, 10, 19, 91, 101, 120, 900000, 888889, 1111111, 8888888, -1, -12,
            Integer.MAX_VALUE, Integer.MIN_VALUE};
        for (int letters : wrong) Checks.due("word(0, " + letters + ")", x.word(0, letters), -2);
        Checks.due("word(4, 1)", x.word(4, 1), -2);
        Checks.due("word(-1, 1)", x.word(-1, 1), -2);
        Checks.due("none came", x.count(0), 0);
        int[] right = {1, 8, 12, 21, 123, 1234, 12345, 123456, 888888, 111111};
        int[] lengths = {1, 1, 2, 2, 3, 4, 5, 6, 6, 6};
        for (int i = 0; i < right.length; i++) {
            Checks.due("word(" + i % 4 + ", " + right[i] + ")", x.word(i % 4, right[i]), i);
            Checks.due("its thing", x.told(i, 6), i % 4);
            Checks.due("its length", x.told(i, 7), lengths[i]);
        }
        Checks.due("no room", x.word(0, 1), -4);
        Checks.due("bad ahead of full", x.word(0, 0), -2);
        Checks.due("bad ahead of full", x.word(4, 1), -2);
        Checks.due("ten", x.count(0), 10);
        // The letters stand in their order: by a rule that adds for the letter at its first use alone.
        Checks.ruled(x, "adds letter*(used=0);worth 0;may 1;");
        Checks.due("costs of abcdef", x.costs(7, 0), 6 + 15);
        Checks.due("costs of h", x.costs(1, 0), 1 + 7);
    }

    private static void writers() {
        DearerByUse x = new DearerByUse();
        int[][] wrong = {{4, 0, 0}, {-1, 0, 0}, {0, 24, 0}, {0, -1, 0}, {0, 0, 10000}, {0, 0, -1}};
        for (int[] w : wrong) Checks.due("a bad writer", x.writer(w[0], w[1], w[2]), -2);
        Checks.due("none came", x.count(1), 0);
        Checks.due("writer(3, 23, 9999)", x.writer(3, 23, 9999), 0);
        for (int i = 1; i < 5; i++) Checks.due("writer(0, 0, 0)", x.writer(0, 0, 0), i);
        Checks.due("no room", x.writer(0, 0, 0), -4);
        for (int[] w : wrong) Checks.due("bad ahead of full", x.writer(w[0], w[1], w[2]), -2);
        Checks.due("five", x.count(1), 5);
        Checks.due("thing", x.told(0, 1), 3);
        Checks.due("hour", x.told(0, 2), 23);
        Checks.due("purse", x.told(0, 3), 9999);
    }

    private static void laws() {
        DearerByUse x = new DearerByUse();
        int[][] wrong = {{6, 0}, {-1, 0}, {0, 10}, {0, -1}};
        for (int[] l : wrong) Checks.due("a bad law", x.law(l[0], l[1]), -2);
        for (int kind = 1; kind < 6; kind++) {
            Checks.due("law", x.law(kind, 9 - kind), kind);
            Checks.due("kind", x.told(kind, 5), kind);
            Checks.due("number", x.told(kind, 4), 9 - kind);
        }
        Checks.due("no room", x.law(0, 0), -4);
        for (int[] l : wrong) Checks.due("bad ahead of full", x.law(l[0], l[1]), -2);
        Checks.due("six", x.count(2), 6);
        Checks.due("law 0 still rules", x.count(3), 0);
    }

    private static void ruling() {
        DearerByUse x = new DearerByUse();
        Checks.due("rule(1) of none", x.rule(1), -2);
        x.law(0, 9);
        x.word(0, 1);
        Checks.due("costs by law 0", x.costs(0, 0), 1);
        Checks.due("rule(1)", x.rule(1), 0);
        Checks.due("costs by law 1", x.costs(0, 0), 9);
        Checks.due("rule(1)", x.rule(1), 1);
        Checks.due("rule(2)", x.rule(2), -2);
        Checks.due("rule(-1)", x.rule(-1), -2);
        Checks.due("count(3)", x.count(3), 1);
        Checks.due("rule(0)", x.rule(0), 1);
    }
}
