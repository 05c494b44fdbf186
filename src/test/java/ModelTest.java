import java.util.ArrayList;
import java.util.List;
import java.util.Random;

/** All promises at once: runs of calls drawn from fixed seeds, each answered as PlainModel answers it. */
public final class ModelTest {
    private static final int CALLS = 512;

    private final Random random;
    private final DearerByUse x = new DearerByUse();
    private final PlainModel m = new PlainModel();
    private final List<String> log = new ArrayList<>();
    private int calls = 0;
    private boolean wrong = false;

    private ModelTest(long seed) {
        random = new Random(seed);
    }

    public static void main(String[] args) {
        int runs = args.length > 0 ? Integer.parseInt(args[0]) : 150;
        long first = args.length > 1 ? Long.parseLong(args[1]) : 1;
        Checks.due("some runs", runs > 0 ? 1 : 0, 1);
        long calls = 0;
        int wrong = 0;
        for (int run = 0; run < runs && wrong < 3; run++) {
            ModelTest test = new ModelTest(first + run);
            test.go();
            calls += test.calls;
            if (test.wrong) wrong++;
            Checks.due("run " + (first + run), test.wrong ? 1 : 0, 0);
        }
        System.out.println("ModelTest: " + calls + " answers in " + runs + " runs");
        Checks.end("ModelTest");
    }

    private void go() {
        int opening = random.nextInt(4);
        if (opening > 0) furnish();
        while (calls < CALLS && !wrong) {
            int kind = random.nextInt(opening == 3 ? 90 : 100);
            if (kind < 12) changes();
            else if (kind < 18) someText();
            else if (kind < 30) writing();
            else if (kind < 62) days();
            else if (kind < 80) saying();
            else host();
        }
    }

    private void furnish() {
        int words = 1 + random.nextInt(10);
        int things = 1 + random.nextInt(4);
        for (int i = 0; i < words; i++) word(random.nextInt(things), letters());
        int writers = 1 + random.nextInt(5);
        int purse = random.nextBoolean() ? 30 : 1500;
        for (int i = 0; i < writers; i++) writer(random.nextInt(things), random.nextInt(24), random.nextInt(purse));
        int laws = random.nextInt(6);
        for (int i = 0; i < laws; i++) law(random.nextInt(6), random.nextInt(10));
        if (laws > 0) due("rule", rule(random.nextInt(laws + 1)));
        if (random.nextBoolean()) someText();
    }

    // ---- arguments: mostly right ones

    private int some(int below) {
        int luck = random.nextInt(60);
        if (luck == 0) return -1;
        if (luck == 1) return below;
        if (luck == 2) return random.nextBoolean() ? Integer.MAX_VALUE : Integer.MIN_VALUE;
        return random.nextInt(Math.max(1, below));
    }

    private int letters() {
        int kinds = 1 + random.nextInt(8);
        int length = 1 + random.nextInt(6);
        int letters = 0;
        for (int i = 0; i < length; i++) letters = letters * 10 + 1 + random.nextInt(kinds);
        return random.nextInt(40) == 0 ? random.nextInt(2000000) - 1000 : letters;
    }

    private int howOften() {
        int luck = random.nextInt(8);
        if (luck == 0) return 990 + random.nextInt(10);
        return luck < 4 ? random.nextInt(12) : some(1000) % 1001;
    }

    // ---- one call to both

    private void due(String call, long[] answers) {
        calls++;
        log.add(call + " -> " + answers[0]);
        if (answers[0] == answers[1] || wrong) return;
        wrong = true;
        System.out.println(call + " answered " + answers[0] + ", due is " + answers[1] + "; ahead of it:");
        for (String line : log.subList(Math.max(0, log.size() - 60), log.size())) System.out.println("  " + line);
    }

    private static long[] both(long got, long want) {
        return new long[] {got, want};
    }

    private void word(int thing, int letters) {
        due("word(" + thing + ", " + letters + ")", both(x.word(thing, letters), m.word(thing, letters)));
    }

    private void writer(int thing, int hour, int purse) {
        String call = "writer(" + thing + ", " + hour + ", " + purse + ")";
        due(call, both(x.writer(thing, hour, purse), m.writer(thing, hour, purse)));
    }

    private void law(int kind, int number) {
        due("law(" + kind + ", " + number + ")", both(x.law(kind, number), m.law(kind, number)));
    }

    private long[] rule(int law) {
        return both(x.rule(law), m.rule(law));
    }

    private void changes() {
        int a = random.nextInt(12);
        if (a < 6) {
            int what = some(5);
            int of = some(what == 0 ? 8 : 5);
            int v = what == 0 ? howOften() : what == 1 ? some(4) : what == 2 ? some(24) : what == 3 ? some(500) : some(10);
            if (random.nextInt(30) == 0) v = random.nextInt(12000) - 500;
            due("set(" + what + ", " + of + ", " + v + ")", both(x.set(what, of, v), m.set(what, of, v)));
        } else if (a == 6) {
            word(some(4), letters());
        } else if (a == 7) {
            writer(some(4), some(24), some(200));
        } else if (a == 8) {
            law(some(6), some(10));
        } else if (a == 9) {
            int law = some(m.laws.size());
            due("rule(" + law + ")", rule(law));
        } else {
            int of = some(8);
            int what = some(8);
            due("told(" + of + ", " + what + ")", both(x.told(of, what), m.told(of, what)));
        }
    }

    private void someText() {
        String text = new TextMaker(random).text();
        for (int i = 0; i < text.length(); i++) {
            int c = text.charAt(i);
            due("feed(" + c + ")", both(x.feed(c), m.feed(c)));
        }
        due("text() of " + text.replace('\n', '~'), both(x.text(), m.text()));
        int force = random.nextInt(3) == 0 ? some(m.texts.size()) : m.texts.size() - 1;
        due("force(" + force + ")", both(x.force(force), m.force(force)));
        if (random.nextInt(20) == 0) due("feed", both(x.feed(300), m.feed(300)));
    }

    private void writing() {
        int word = some(m.words.size());
        int hour = some(24);
        int thing = some(4);
        int what = some(2);
        int n = some(random.nextBoolean() ? 3 : 25);
        switch (random.nextInt(5)) {
            case 0, 1 -> due("costs(" + word + ", " + hour + ")", both(x.costs(word, hour), m.costs(word, hour)));
            case 2 -> due("write(" + word + ", " + hour + ")", both(x.write(word, hour), m.write(word, hour)));
            case 3 -> due("pass(" + n + ")", both(x.pass(n), m.pass(n)));
            default -> due("cheapest(" + thing + ", " + hour + ", " + what + ")",
                both(x.cheapest(thing, hour, what), m.cheapest(thing, hour, what)));
        }
    }

    private void days() {
        int writer = some(m.wanting.size());
        int what = some(2);
        int three = some(3);
        int n = 1 + some(20);
        int letter = some(8);
        switch (random.nextInt(20)) {
            case 0, 1, 2, 3 -> due("day(" + writer + ", " + three + ")", both(x.day(writer, three), m.day(writer, three)));
            case 4, 5, 6, 7 -> {
                int four = some(4);
                due("all(" + four + ")", both(x.all(four), m.all(four)));
            }
            case 8, 9 -> due("when(" + writer + ", " + what + ")", both(x.when(writer, what), m.when(writer, what)));
            case 10 -> due("choose(" + writer + ")", both(x.choose(writer), m.choose(writer)));
            case 11 -> due("rest()", both(x.rest(), m.rest()));
            case 12, 13 -> due("turns(" + what + ")", both(x.turns(what), m.turns(what)));
            case 14, 15 -> due("burn(" + letter + ", " + n + ")", both(x.burn(letter, n), m.burn(letter, n)));
            case 16, 17 -> due("worst(" + n + ", " + what + ")", both(x.worst(n, what), m.worst(n, what)));
            default -> due("best(" + three + ")", both(x.best(three), m.best(three)));
        }
    }

    private void saying() {
        int sheet = some(4);
        int writer = some(m.wanting.size());
        int seed = random.nextInt();
        int n = 1 + some(20);
        int part = some(2);
        int what = some(8);
        switch (random.nextInt(14)) {
            case 0 -> due("judge(" + sheet + ")", both(x.judge(sheet), m.judge(sheet)));
            case 1, 2 -> {
                paidSheet(sheet);
                due("judge(" + sheet + ")", both(x.judge(sheet), m.judge(sheet)));
                due("whose(" + sheet + ")", both(x.whose(sheet), m.whose(sheet)));
            }
            case 3, 4, 5 -> {
                int sum = random.nextInt(4) == 0 ? some(10000) : likelySum(writer);
                due("fits(" + writer + ", " + sum + ")", both(x.fits(writer, sum), m.fits(writer, sum)));
            }
            case 6 -> due("whose(" + sheet + ")", both(x.whose(sheet), m.whose(sheet)));
            case 7, 8 -> due("drawn(" + seed + ")", both(x.drawn(seed), m.drawn(seed)));
            case 9 -> due("chance(" + seed + ", " + n + ", " + part + ")",
                both(x.chance(seed, n, part), m.chance(seed, n, part)));
            case 10 -> due("image()", both(x.image(), m.image()));
            case 11 -> due("back()", both(x.back(), m.back()));
            default -> due("count(" + what + ")", both(x.count(what), m.count(what)));
        }
    }

    /** A sheet of what writers pay by one of the laws, now and then with a fault. */
    private void paidSheet(int sheet) {
        if (sheet < 0 || sheet > 3) return;
        PlainModel.Day day = m.dayBy(m.laws.get(random.nextInt(m.laws.size())));
        int sort = random.nextInt(3);
        int n = day.said.length;
        due("sheet(" + sheet + ", " + sort + ", " + n + ")", both(x.sheet(sheet, sort, n), m.sheet(sheet, sort, n)));
        for (int i = 0; i < n; i++) {
            int v = random.nextInt(12) == 0 ? random.nextInt(5) - 1 : day.said[i] < 0 ? -1 : day.paid[i];
            due("cell(" + sheet + ", " + i + ", " + v + ")", both(x.cell(sheet, i, v), m.cell(sheet, i, v)));
        }
    }

    private int likelySum(int writer) {
        if (writer < 0 || writer >= m.wanting.size() || m.words.isEmpty()) return 3;
        PlainModel.Day day = m.new Day().live();
        PlainModel.Word word = m.words.get(random.nextInt(m.words.size()));
        return day.write(word, m.wanting.get(writer).hour, day.ahead[writer].clone());
    }

    private void host() {
        int sheet = some(4);
        int other = random.nextInt(3) == 0 ? sheet : some(4);
        int sort = some(4) - 1;
        int i = some(random.nextBoolean() ? 6 : 40);
        int j = some(random.nextBoolean() ? 6 : 40);
        int n = some(random.nextBoolean() ? 6 : 41);
        int small = random.nextInt(12) == 0 ? random.nextInt() : random.nextInt(24);
        switch (random.nextInt(12)) {
            case 0, 1 -> due("sheet(" + sheet + ", " + sort + ", " + n + ")", both(x.sheet(sheet, sort, n), m.sheet(sheet, sort, n)));
            case 2, 3, 4 -> due("cell(" + sheet + ", " + i + ", " + small + ")", both(x.cell(sheet, i, small), m.cell(sheet, i, small)));
            case 5, 6, 7 -> due("copy(" + sheet + ", " + i + ", " + other + ", " + j + ", " + n + ")",
                both(x.copy(sheet, i, other, j, n), m.copy(sheet, i, other, j, n)));
            case 8, 9 -> {
                int many = some(6);
                int as = m.sheets[sheet & 3] != null && random.nextInt(4) > 0 ? m.sheets[sheet & 3].sort() : some(3);
                due("writers(" + sheet + ", " + as + ", " + i + ", " + many + ")",
                    both(x.writers(sheet, as, i, many), m.writers(sheet, as, i, many)));
            }
            default -> {
                int law = some(m.laws.size());
                int k = some(6);
                due("taken(" + law + ", " + k + ")", both(x.taken(law, k), m.taken(law, k)));
            }
        }
    }
}
