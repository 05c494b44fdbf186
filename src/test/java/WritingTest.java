/** Promises 11 to 14: costs, write, pass, cheapest; COSTS and AGES of each KIND. */
public final class WritingTest {
    public static void main(String[] args) {
        costsOfKinds();
        agesOfKinds();
        costs();
        adding();
        writing();
        writingAtTheMost();
        passing();
        cheapest();
        Checks.end("WritingTest");
    }

    /** What one use costs by the words of the document, said over again. */
    private static int due(int kind, int number, int u, int hour) {
        int law = u + number;
        int steep = law + u * (number + 1);
        int step = u / 3 * 3;
        switch (kind) {
            case 0: return law;
            case 1: return steep;
            case 2: return law / 2;
            case 3: return step + number + step * (number + 1);
            case 4: return hour <= 5 ? 0 : law / 2;
            default: return u == 0 ? steep + 5 : steep;
        }
    }

    private static void costsOfKinds() {
        int[] uses = {0, 1, 2, 3, 4, 5, 6, 7, 8, 9, 10, 100, 500, 997, 998, 999};
        int[] hours = {0, 1, 5, 6, 7, 23};
        for (int kind = 0; kind < 6; kind++) {
            for (int number = 0; number < 10; number++) {
                DearerByUse x = new DearerByUse();
                x.word(0, 4);
                x.rule(x.law(kind, number));
                for (int u : uses) {
                    x.set(0, 3, u);
                    for (int hour : hours) {
                        String call = "costs of kind " + kind + ", number " + number + ", used " + u + " at " + hour;
                        Checks.due(call, x.costs(0, hour), due(kind, number, u, hour));
                    }
                }
            }
        }
    }

    private static void agesOfKinds() {
        int[] uses = {0, 1, 2, 3, 4, 5, 8, 9, 10, 11, 500, 999};
        for (int kind = 0; kind < 6; kind++) {
            for (int number = 0; number < 10; number++) {
                DearerByUse x = new DearerByUse();
                x.rule(x.law(kind, number));
                for (int u : uses) {
                    int[] aged = {u, u, Math.max(0, u - number), Math.max(0, u - 1), Math.max(0, u - number),
                        u < number ? 0 : u};
                    x.set(0, 5, u);
                    String call = "an hour of kind " + kind + ", number " + number + ", used " + u;
                    Checks.due(call, x.pass(1), aged[kind]);
                    Checks.due(call, x.told(5, 0), aged[kind]);
                }
            }
        }
    }

    private static void costs() {
        DearerByUse x = new DearerByUse();
        Checks.due("no word", x.costs(0, 0), -2);
        x.word(0, 112112);
        int[][] wrong = {{1, 0}, {-1, 0}, {0, 24}, {0, -1}, {Integer.MAX_VALUE, 0}, {Integer.MIN_VALUE, 0}};
        for (int[] w : wrong) Checks.due("costs(" + w[0] + ", " + w[1] + ")", x.costs(w[0], w[1]), -2);
        // a a b a a b: 1 2 1 3 4 2
        Checks.due("costs(0, 0)", x.costs(0, 0), 13);
        Checks.due("costs(0, 23)", x.costs(0, 23), 13);
        Checks.due("it changes nothing", x.count(7), 0);
        x.set(0, 1, 10);
        Checks.due("costs(0, 0)", x.costs(0, 0), 1 + 2 + 11 + 3 + 4 + 12);
        x.set(0, 0, 997);
        Checks.due("999 at most", x.costs(0, 0), 998 + 999 + 11 + 1000 + 1000 + 12);
    }

    private static void adding() {
        DearerByUse x = new DearerByUse();
        x.word(0, 838);
        Checks.ruled(x, "adds used*10+hour+letter;worth 0;may 1;");
        // h c h at hour 4: (1, 0 + 4 + 7), (1, 0 + 4 + 2), (2, 10 + 4 + 7)
        Checks.due("costs(0, 4)", x.costs(0, 4), 1 + 11 + 1 + 6 + 2 + 21);
        Checks.ruled(x, "adds hour*9-50;worth 0;may 1;");
        Checks.due("costs(0, 5)", x.costs(0, 5), 4);
        Checks.due("costs(0, 6)", x.costs(0, 6), 4 + 3 * 4);
        Checks.due("costs(0, 23)", x.costs(0, 23), 4 + 3 * 99);
        // NIGHT costs nothing by night, but what is added comes to it.
        x.rule(x.law(4, 8));
        Checks.ruled(x, "adds 3;worth 0;may 1;");
        Checks.due("costs(0, 5)", x.costs(0, 5), 9);
        Checks.due("costs(0, 6)", x.costs(0, 6), 9 + 4 + 4 + 4);
    }

    private static void writing() {
        DearerByUse x = new DearerByUse();
        x.word(0, 12);
        x.word(0, 11);
        int[][] wrong = {{2, 0}, {-1, 0}, {0, 24}, {0, -1}};
        for (int[] w : wrong) Checks.due("write(" + w[0] + ", " + w[1] + ")", x.write(w[0], w[1]), -2);
        Checks.due("nothing was written", x.count(7), 0);
        Checks.due("write(0, 0)", x.write(0, 0), 2);
        Checks.due("write(0, 0)", x.write(0, 0), 4);
        Checks.due("write(1, 23)", x.write(1, 23), 3 + 4);
        Checks.due("a", x.told(0, 0), 4);
        Checks.due("b", x.told(1, 0), 2);
        Checks.due("c", x.told(2, 0), 0);
        x.rule(x.law(4, 0));
        Checks.due("by night", x.write(0, 5), 0);
        Checks.due("a", x.told(0, 0), 5);
        Checks.due("by day", x.write(0, 6), 2 + 1);
    }

    private static void writingAtTheMost() {
        DearerByUse x = new DearerByUse();
        x.word(0, 111);
        x.set(0, 0, 998);
        Checks.due("write(0, 0)", x.write(0, 0), 999 + 1000 + 1000);
        Checks.due("999 at most", x.told(0, 0), 999);
        x.rule(x.law(5, 9));
        Checks.due("write(0, 0)", x.write(0, 0), 3 * (999 + 9 + 999 * 10));
    }

    private static void passing() {
        DearerByUse x = new DearerByUse();
        for (int letter = 0; letter < 8; letter++) x.set(0, letter, letter * 10);
        Checks.due("pass(-1)", x.pass(-1), -2);
        Checks.due("pass(25)", x.pass(25), -2);
        Checks.due("pass(0)", x.pass(0), 280);
        Checks.due("pass(24) by a law", x.pass(24), 280);
        x.rule(x.law(2, 3));
        Checks.due("pass(0)", x.pass(0), 280);
        Checks.due("pass(2)", x.pass(2), 4 + 14 + 24 + 34 + 44 + 54 + 64);
        Checks.due("b", x.told(1, 0), 4);
        Checks.due("a", x.told(0, 0), 0);
        x.rule(x.law(3, 9));
        Checks.due("pass(24)", x.pass(24), 10 + 20 + 30 + 40);
        x.rule(x.law(5, 9));
        Checks.due("pass(24)", x.pass(24), 100);
        x.set(0, 7, 8);
        Checks.due("pass(1)", x.pass(1), 60);
        x.set(0, 6, 9);
        Checks.due("pass(24)", x.pass(24), 10 + 20 + 9);
    }

    private static void cheapest() {
        DearerByUse x = new DearerByUse();
        Checks.due("none", x.cheapest(0, 0, 0), -1);
        Checks.due("none", x.cheapest(0, 0, 1), -1);
        x.word(1, 11);
        x.word(0, 123);
        x.word(0, 45);
        x.word(0, 67);
        x.word(0, 66);
        int[][] wrong = {{4, 0, 0}, {-1, 0, 0}, {0, 24, 0}, {0, -1, 0}, {0, 0, 2}, {0, 0, -1}};
        for (int[] w : wrong) Checks.due("a bad cheapest", x.cheapest(w[0], w[1], w[2]), -2);
        Checks.due("of like ones the first", x.cheapest(0, 0, 0), 2);
        Checks.due("what it costs", x.cheapest(0, 0, 1), 2);
        x.set(0, 4, 1);
        Checks.due("another", x.cheapest(0, 0, 0), 3);
        x.set(0, 6, 50);
        Checks.due("again the first, of 3 and 3 and 3", x.cheapest(0, 0, 0), 1);
        x.set(0, 3, 50);
        Checks.due("the first of 3 and 3", x.cheapest(0, 0, 0), 1);
        Checks.due("what it costs", x.cheapest(0, 0, 1), 3);
        Checks.due("of thing 1", x.cheapest(1, 0, 0), 0);
        Checks.due("of thing 1", x.cheapest(1, 0, 1), 3);
        Checks.due("of thing 2", x.cheapest(2, 0, 1), -1);
        Checks.due("the last thing at the last hour", x.cheapest(3, 23, 0), -1);
        Checks.due("of thing 1 at the last hour", x.cheapest(1, 23, 1), 3);
        // Neither purse nor may matter here.
        x.writer(0, 0, 0);
        Checks.ruled(x, "adds letter*hour;worth 0;may 0;");
        Checks.due("by an hour", x.cheapest(0, 5, 0), 1);
        Checks.due("by an hour", x.cheapest(0, 5, 1), 3 + 0 + 5 + 10);
        Checks.due("it changes nothing", x.count(7), 101);
        x.rule(x.law(4, 3));
        x.force(0);
        Checks.due("for nothing by night", x.cheapest(0, 0, 0), 1);
        Checks.due("for nothing by night", x.cheapest(0, 0, 1), 0);
    }
}
