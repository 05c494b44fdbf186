/** Promises 15 to 23: day, all, when, choose, rest, turns, burn, worst, best. */
public final class DayTest {
    private static final int NO_SUCH = -100000;

    public static void main(String[] args) {
        aDay();
        theirOrder();
        likeWordsAndPurses();
        whoMay();
        aDayAges();
        fiveWriters();
        wrongDays();
        when();
        whenOthersWrite();
        choosing();
        resting();
        turns();
        turnsOfFive();
        likeTurns();
        burning();
        burningMakesCheaper();
        worst();
        best();
        moreSaidGoesFirst();
        Checks.end("DayTest");
    }

    private static void days(DearerByUse x, int writer, int paid, int said, int good) {
        Checks.due("PAID of " + writer, x.day(writer, 0), paid);
        Checks.due("SAID of " + writer, x.day(writer, 1), said);
        Checks.due("GOOD of " + writer, x.day(writer, 2), good);
    }

    private static void alls(DearerByUse x, int good, int said, int spread, int paid) {
        Checks.due("ALL GOOD", x.all(0), good);
        Checks.due("how many SAID", x.all(1), said);
        Checks.due("SPREAD", x.all(2), spread);
        Checks.due("all PAID", x.all(3), paid);
    }

    private static void aDay() {
        DearerByUse x = new DearerByUse();
        alls(x, 0, 0, 0, 0);
        x.word(0, 1);
        x.word(0, 2);
        x.word(1, 333);
        x.writer(0, 5, 9);
        x.writer(0, 5, 9);
        x.writer(1, 2, 5);
        days(x, 0, 1, 0, 48);
        days(x, 1, 1, 1, 48);
        days(x, 2, 0, -1, 0);
        alls(x, 96, 2, 1, 2);
        x.set(3, 2, 6);
        days(x, 2, 6, 2, 41);
        alls(x, 137, 3, 3, 8);
        Checks.due("a day in thought changes nothing", x.count(7), 0);
        x.writer(2, 0, 9999);
        days(x, 3, 0, -1, 0);
        x.set(0, 7, 40);
        Checks.due("SPREAD counts letters of no word", x.all(2), 40);
        for (int letter = 0; letter < 8; letter++) x.set(0, letter, 10 + 3 * letter);
        // a 10, used once more; b, c 13, 16 (c too dear now); h 31
        Checks.due("SPREAD from the least on", x.all(2), 31 - 10);
    }

    private static void theirOrder() {
        DearerByUse x = new DearerByUse();
        x.word(0, 1);
        x.word(0, 22);
        x.writer(0, 5, 99);
        x.writer(0, 4, 99);
        x.writer(0, 5, 99);
        // Writer 1 first (a: 1), then 0 (a: 2, bb: 3), then 2 (a: 3, bb: 3: the first).
        days(x, 1, 1, 0, 48);
        days(x, 0, 2, 0, 47);
        days(x, 2, 3, 0, 46);
        x.writer(0, 23, 99);
        days(x, 3, 3, 1, 45);
        x.set(2, 3, 0);
        days(x, 3, 1, 0, 48);
        days(x, 2, 3, 1, 45);
    }

    private static void likeWordsAndPurses() {
        DearerByUse x = new DearerByUse();
        x.word(0, 12);
        x.word(0, 34);
        x.writer(0, 0, 2);
        days(x, 0, 2, 0, 46);
        x.set(3, 0, 1);
        days(x, 0, 0, -1, 0);
        x.set(4, 0, 0);
        x.set(3, 0, 0);
        days(x, 0, 0, 0, 48);
        x.set(0, 0, 1);
        days(x, 0, 0, 1, 48);
        x.set(0, 3, 1);
        days(x, 0, 0, -1, 0);
    }

    private static void whoMay() {
        DearerByUse x = new DearerByUse();
        x.word(0, 1);
        x.word(0, 234);
        x.writer(0, 6, 50);
        Checks.ruled(x, "adds 0;worth 9*length;may 1<length;");
        days(x, 0, 3, 1, 24);
        Checks.ruled(x, "adds 0;worth 0;may hour<6;");
        days(x, 0, 0, -1, 0);
        x.set(2, 0, 5);
        days(x, 0, 1, 0, -1);
        Checks.ruled(x, "adds 0;worth purse+many;may purse=50 and many=1;");
        days(x, 0, 1, 0, 50);
        x.writer(3, 0, 0);
        days(x, 0, 0, -1, 0);
    }

    private static void aDayAges() {
        DearerByUse x = new DearerByUse();
        x.word(0, 1);
        x.set(0, 0, 30);
        x.set(0, 1, 999);
        x.set(0, 2, 999);
        x.writer(0, 0, 99);
        x.writer(0, 3, 99);
        x.rule(x.law(2, 2));
        // (30 + 2) / 2, then of 31 - 6: (25 + 2) / 2
        days(x, 0, 16, 0, 33);
        days(x, 1, 13, 0, 36);
        Checks.due("24 hours pass", x.all(2), 999 - 48);
        // What is written in the last hour ages, too.
        x.set(0, 1, 0);
        x.set(0, 2, 0);
        x.set(0, 0, 0);
        x.rule(x.law(3, 1));
        x.set(2, 0, 23);
        x.set(2, 1, 23);
        Checks.due("SPREAD", x.all(2), 1);
        x.set(0, 0, 24);
        Checks.due("SPREAD", x.all(2), 2);
    }

    private static void fiveWriters() {
        DearerByUse x = new DearerByUse();
        x.word(0, 1);
        x.image();
        for (int i = 0; i < 5; i++) x.writer(0, 10 - i, 99);
        for (int i = 0; i < 5; i++) days(x, i, 5 - i, 0, 44 + i);
        alls(x, 44 + 45 + 46 + 47 + 48, 5, 5, 15);
        Checks.due("the last comes first", x.when(4, 1), 48);
        Checks.due("not at rest", x.rest(), 0);
        for (int i = 0; i < 5; i++) x.set(2, i, 0);
        Checks.due("at rest, the first of them first", x.rest(), 1);
        Checks.due("the last", x.day(4, 0), 5);
        x.back();
        alls(x, 0, 0, 0, 0);
        x.writer(0, 1, 99);
        alls(x, 48, 1, 1, 1);
        Checks.due("at rest, alone", x.rest(), 1);
    }

    private static void wrongDays() {
        DearerByUse x = new DearerByUse();
        Checks.due("day(0, 0)", x.day(0, 0), NO_SUCH);
        Checks.due("when(0, 0)", x.when(0, 0), NO_SUCH);
        Checks.due("choose(0)", x.choose(0), NO_SUCH);
        x.writer(0, 0, 0);
        int[][] wrong = {{1, 0}, {-1, 0}, {0, 3}, {0, -1}, {Integer.MIN_VALUE, 0}, {Integer.MAX_VALUE, 0}};
        for (int[] w : wrong) {
            Checks.due("day(" + w[0] + ", " + w[1] + ")", x.day(w[0], w[1]), NO_SUCH);
            Checks.due("when(" + w[0] + ", " + w[1] + ")", x.when(w[0], w[1]), NO_SUCH);
        }
        Checks.due("when(0, 2)", x.when(0, 2), NO_SUCH);
        Checks.due("all(4)", x.all(4), NO_SUCH);
        Checks.due("all(-1)", x.all(-1), NO_SUCH);
        Checks.due("choose(1)", x.choose(1), NO_SUCH);
        Checks.due("choose(-1)", x.choose(-1), NO_SUCH);
        Checks.due("turns(2)", x.turns(2), NO_SUCH);
        Checks.due("turns(-1)", x.turns(-1), NO_SUCH);
        int[][] burns = {{8, 1}, {-1, 1}, {0, 0}, {0, 21}, {0, -1}, {0, Integer.MIN_VALUE}, {0, Integer.MAX_VALUE}};
        for (int[] b : burns) Checks.due("burn(" + b[0] + ", " + b[1] + ")", x.burn(b[0], b[1]), NO_SUCH);
        int[][] worsts = {{0, 0}, {21, 0}, {1, 2}, {1, -1}, {Integer.MIN_VALUE, 0}};
        for (int[] w : worsts) Checks.due("worst(" + w[0] + ", " + w[1] + ")", x.worst(w[0], w[1]), NO_SUCH);
        Checks.due("best(3)", x.best(3), NO_SUCH);
        Checks.due("best(-1)", x.best(-1), NO_SUCH);
    }

    private static void when() {
        DearerByUse x = new DearerByUse();
        x.word(0, 1);
        x.writer(0, 15, 999);
        Checks.due("of like ones the first", x.when(0, 0), 0);
        Checks.due("GOOD then", x.when(0, 1), 48);
        Checks.ruled(x, "adds (hour-7)*(hour-8);worth 90;may 1;");
        Checks.due("the first of 7 and 8", x.when(0, 0), 7);
        Checks.due("GOOD then", x.when(0, 1), 89);
        Checks.due("it changes nothing", x.told(0, 2), 15);
        Checks.ruled(x, "adds 9*(not hour=1);worth 90;may 1;");
        Checks.due("hour 1", x.when(0, 0), 1);
        Checks.ruled(x, "adds 0;worth hour*30;may 1;");
        Checks.due("the last hour", x.when(0, 0), 23);
        Checks.due("GOOD then", x.when(0, 1), 689);
        x.force(0);
        x.rule(x.law(2, 1));
        x.set(0, 0, 30);
        // At 22: (8 + 1) / 2, at 23: (7 + 1) / 2
        Checks.due("aged enough", x.when(0, 0), 22);
        Checks.due("GOOD then", x.when(0, 1), 45);
        x.rule(0);
        Checks.ruled(x, "adds 0;worth 0;may not hour=3;");
        Checks.due("nothing is more than less", x.when(0, 0), 3);
        Checks.due("GOOD then", x.when(0, 1), 0);
        Checks.ruled(x, "adds 0;worth 0;may 1;");
        Checks.due("all are below 0", x.when(0, 0), 0);
        Checks.due("GOOD then", x.when(0, 1), -31);
    }

    private static void whenOthersWrite() {
        DearerByUse x = new DearerByUse();
        x.word(0, 111);
        x.writer(0, 4, 99);
        x.writer(0, 9, 99);
        x.writer(0, 0, 99);
        // At 0 writer 0 comes ahead of writer 2; writer 1 behind writer 0, at 4 too; writer 2 needs no other hour.
        Checks.due("ahead of one of its hour", x.when(0, 0), 0);
        Checks.due("GOOD then", x.when(0, 1), 41);
        Checks.due("writer 1", x.when(1, 0), 0);
        Checks.due("GOOD then", x.when(1, 1), 41);
        Checks.due("writer 2", x.when(2, 0), 0);
        x.set(2, 0, 0);
        Checks.due("behind writer 0", x.when(1, 1), 47 - 15);
        Checks.due("writer 2 waits for none, but is behind 0", x.when(2, 1), 47 - 15);
        x.set(2, 2, 1);
        Checks.due("the first of 0 and those ahead of 1", x.when(1, 0), 0);
    }

    private static void choosing() {
        DearerByUse x = new DearerByUse();
        x.word(0, 1);
        x.writer(0, 15, 999);
        x.writer(0, 16, 999);
        Checks.ruled(x, "adds (hour-7)*(hour-8);worth 90;may 1;");
        Checks.due("choose(0)", x.choose(0), 89);
        Checks.due("its hour", x.told(0, 2), 7);
        Checks.due("GOOD", x.day(0, 2), 89);
        // Behind writer 0 at 7 (2) or at 8 (2); ahead of it at 6 (1, and 2).
        Checks.due("choose(1)", x.choose(1), 88);
        Checks.due("its hour", x.told(1, 2), 7);
        Checks.due("choose(0)", x.choose(0), 89);
        Checks.due("its hour", x.told(0, 2), 7);
    }

    private static void resting() {
        DearerByUse x = new DearerByUse();
        Checks.due("no writer", x.rest(), 1);
        x.word(0, 1);
        x.writer(0, 15, 999);
        Checks.due("all hours are alike", x.rest(), 1);
        Checks.ruled(x, "adds (hour-7)*(hour-8);worth 90;may 1;");
        Checks.due("not at rest", x.rest(), 0);
        x.set(2, 0, 8);
        Checks.due("as good as at 7", x.rest(), 1);
        Checks.due("it changes nothing", x.told(0, 2), 8);
        x.writer(0, 8, 999);
        Checks.due("writer 1 would come first at 7", x.rest(), 0);
        x.choose(1);
        Checks.due("now writer 0 comes second; at 7 it would be first", x.rest(), 0);
        x.choose(0);
        Checks.due("both at 7", x.told(0, 2), 7);
        Checks.due("writer 1 behind, by any hour at most as good", x.rest(), 1);
    }

    private static void turns() {
        DearerByUse x = new DearerByUse();
        Checks.due("none", x.turns(0), 0);
        Checks.due("none", x.turns(1), 0);
        x.word(0, 111111);
        x.word(1, 2);
        x.writer(0, 5, 999);
        Checks.due("of one", x.turns(0), 44 - 21);
        Checks.due("of one", x.turns(1), 0);
        x.writer(1, 9, 999);
        Checks.ruled(x, "adds (hour=5)*5;worth 50-length;may 1;");
        Checks.due("as it is", x.all(0), 44 - 51 + 48);
        Checks.due("turned", x.turns(0), 44 - 21 + 43);
        Checks.due("turned", x.turns(1), 10);
        Checks.due("it changes nothing", x.told(0, 2), 5);
        x.writer(1, 6, 999);
        Checks.ruled(x, "adds (6-hour)*(6-hour)*(hour<7);worth 90;may 1;");
        // At 5 1 each, at 6 and 9 nothing: the long word goes to 6 or 9, the least is 102.
        Checks.due("of three", x.turns(1), 102);
        Checks.ruled(x, "adds hour*hour-25;worth 90;may 1;");
        Checks.due("the long word at 5", x.turns(1), 12);
        x.set(2, 0, 9);
        x.set(2, 2, 5);
        Checks.due("the long word at 5, the others as digits", x.turns(1), 201);
    }

    private static void turnsOfFive() {
        DearerByUse x = new DearerByUse();
        x.word(0, 1);
        x.word(1, 22);
        x.word(2, 333);
        x.word(3, 4444);
        int[] hours = {3, 2, 1, 0};
        for (int i = 0; i < 4; i++) x.writer(i, hours[i], 9999);
        x.writer(0, 20, 9999);
        Checks.ruled(x, "adds hour*9;worth 0;may 1;");
        // Costs are 1, 3, 6, 10 and 9 each for letter and hour; the longest takes the least hour already.
        Checks.due("as it is", x.turns(1), 123);
        int all = -(1 + 27) - (3 + 36) - (6 + 27) - 10 - (2 + 99);
        Checks.due("all good, the fifth with them", x.turns(0), all);
        for (int i = 0; i < 4; i++) x.set(2, i, i);
        Checks.due("turned round", x.turns(1), 3210);
        Checks.due("all good", x.turns(0), all);
        x.set(2, 4, 0);
        Checks.due("the fifth's hour is its own", x.turns(1), 3210);
        x.set(2, 2, 4);
        Checks.due("3 gets 0, 2 gets 1, 1 gets 3, 0 gets 4", x.turns(1), 2310);
    }

    private static void likeTurns() {
        DearerByUse x = new DearerByUse();
        x.word(0, 12);
        for (int i = 0; i < 4; i++) x.writer(0, i, 99);
        Checks.due("all alike", x.turns(1), 123);
        for (int i = 0; i < 4; i++) x.set(2, i, 7);
        Checks.due("all at once", x.turns(1), 123);
    }

    private static void burning() {
        DearerByUse x = new DearerByUse();
        Checks.due("none", x.burn(0, 20), 0);
        x.word(0, 1);
        x.writer(0, 0, 9);
        Checks.due("burn(0, 5)", x.burn(0, 5), 5);
        Checks.due("burn(0, 8)", x.burn(0, 8), 8);
        Checks.due("says nothing then", x.burn(0, 9), 48);
        Checks.due("burn(1, 20)", x.burn(1, 20), 0);
        Checks.due("it changes nothing", x.count(7), 0);
        x.set(3, 0, 9999);
        x.set(0, 0, 990);
        Checks.due("999 at most", x.burn(0, 20), 9);
        Checks.due("burn(0, 9)", x.burn(0, 9), 9);
        Checks.due("burn(0, 1)", x.burn(0, 1), 1);
    }

    private static void burningMakesCheaper() {
        DearerByUse x = new DearerByUse();
        x.word(0, 1);
        x.writer(0, 0, 99);
        x.rule(x.law(5, 0));
        // 5 at first, but 2 behind a use
        Checks.due("GOOD is more then", x.burn(0, 1), -3);
        Checks.due("the first by which it is most", x.worst(1, 0), 1);
        Checks.due("how much", x.worst(1, 1), 0);
    }

    private static void worst() {
        DearerByUse x = new DearerByUse();
        Checks.due("none", x.worst(20, 0), 0);
        Checks.due("none", x.worst(20, 1), 0);
        x.word(0, 667);
        x.word(1, 78);
        x.writer(0, 0, 99);
        x.writer(1, 0, 99);
        Checks.due("f and g twice each: the first", x.worst(3, 0), 5);
        Checks.due("how much", x.worst(3, 1), 6);
        x.word(0, 8);
        // h is written twice now: the saying of 0 is h, of 1 gh.
        Checks.due("h", x.worst(1, 0), 7);
        Checks.due("how much", x.worst(1, 1), x.burn(7, 1));
        x.set(0, 7, 998);
        Checks.due("h can be burned by 1 alone, f by 20", x.worst(20, 1), x.burn(x.worst(20, 0), 20));
    }

    private static void best() {
        DearerByUse x = new DearerByUse();
        Checks.due("of one law", x.best(0), 0);
        Checks.due("of one law", x.best(1), 0);
        Checks.due("of one law", x.best(2), 0);
        x.word(0, 1);
        x.writer(0, 0, 5);
        x.law(0, 9);
        Checks.due("law 1 is too dear", x.best(0), 0);
        Checks.due("one says", x.best(1), 1);
        Checks.due("good", x.best(2), 48);
        x.law(0, 0);
        Checks.due("as many, and better", x.best(0), 2);
        Checks.due("good", x.best(2), 49);
        x.law(2, 1);
        Checks.due("like it: the first", x.best(0), 2);
        x.rule(1);
        Checks.due("whatever rules", x.best(0), 2);
        Checks.due("it changes nothing", x.count(3), 1);
    }

    private static void moreSaidGoesFirst() {
        DearerByUse x = new DearerByUse();
        x.word(0, 1);
        x.writer(0, 0, 8);
        x.writer(0, 0, 8);
        Checks.ruled(x, "adds 0;worth 0;may 1;");
        x.set(4, 0, 9);
        x.law(0, 5);
        Checks.due("law 0: nobody, for 0; law 1: both, for less", x.best(0), 1);
        Checks.due("both", x.best(1), 2);
        Checks.due("good", x.best(2), -11);
        x.law(0, 8);
        Checks.due("one of them, for less", x.best(0), 1);
    }
}
