import java.util.Random;

/** Makes texts for ModelTest: most of them right, some of them spoiled. */
final class TextMaker {
    private static final String[] NAMES = {"used", "hour", "letter", "length", "purse", "many"};
    private static final String SPOILS = "();+-*<=#0A ~az9\n/";

    private final Random random;

    TextMaker(Random random) {
        this.random = random;
    }

    String text() {
        String text;
        int tries = 0;
        do {
            int depth = random.nextInt(6);
            text = gap() + "adds " + e(depth) + gap() + ";" + gap() + "worth " + e(depth) + ";" + gap() + "may " + e(depth)
                + gap() + ";" + gap();
            tries++;
        } while (text.length() > 160 && tries < 50);
        int luck = random.nextInt(10);
        return luck < 6 ? text : spoiled(text, luck);
    }

    private String spoiled(String text, int luck) {
        int at = random.nextInt(text.length());
        if (luck == 6) return text.substring(0, at);
        if (luck == 7) return text.substring(0, at) + text.substring(at + 1);
        char c = SPOILS.charAt(random.nextInt(SPOILS.length()));
        if (luck == 8) return text.substring(0, at) + c + text.substring(at);
        String[] pieces = {"not ", "(", "-", "((((", "----", "not not not ", " or ", " and ", "12345", "used", ";", "adds "};
        return text.substring(0, at) + pieces[random.nextInt(pieces.length)] + text.substring(at);
    }

    private String gap() {
        return random.nextInt(4) == 0 ? " \n".substring(random.nextInt(2)) : "";
    }

    private String e(int depth) {
        String and = and(depth);
        return random.nextInt(5) == 0 ? and + " or " + and(depth) : and;
    }

    private String and(int depth) {
        String not = not(depth);
        return random.nextInt(6) == 0 ? not + " and " + not(depth) : not;
    }

    private String not(int depth) {
        if (depth > 0 && random.nextInt(5) == 0) return "not " + not(depth - 1);
        String sum = sum(depth);
        int luck = random.nextInt(6);
        return luck == 0 ? sum + "<" + sum(depth) : luck == 1 ? sum + "=" + sum(depth) : sum;
    }

    private String sum(int depth) {
        String sum = term(depth);
        int more = random.nextInt(3);
        for (int i = 0; i < more; i++) sum += (random.nextBoolean() ? "+" : "-") + term(depth);
        return sum;
    }

    private String term(int depth) {
        String one = one(depth);
        return random.nextInt(3) == 0 ? one + gap() + "*" + gap() + one(depth) : one;
    }

    private String one(int depth) {
        int luck = random.nextInt(10);
        if (depth > 0 && luck == 0) return "-" + one(depth - 1);
        if (depth > 0 && luck < 3) return "(" + e(depth - 1) + ")";
        if (luck < 7) return NAMES[random.nextInt(NAMES.length)];
        return String.valueOf(random.nextInt(luck == 9 ? 10000 : 20));
    }
}
