import java.util.ArrayList;
import java.util.Arrays;
import java.util.HashMap;
import java.util.List;
import java.util.Map;
import java.util.TreeMap;
import java.util.function.ToIntFunction;

/** The document said over again with the whole of Java, as slowly and plainly as can be: ModelTest holds the class to it. */
final class PlainModel {
    static final int BAD = -2, STATE = -3, FULL = -4, NONE = -1, NO_SUCH = -100000;

    // ---- what there is

    static class Law {
        int number;

        int costs(int u, int h) {
            return u + number;
        }

        int ages(int u) {
            return u;
        }
    }

    static class Steep extends Law {
        @Override int costs(int u, int h) {
            return super.costs(u, h) + u * (number + 1);
        }
    }

    static class Flat extends Law {
        @Override int costs(int u, int h) {
            return super.costs(u, h) / 2;
        }

        @Override int ages(int u) {
            return u - number;
        }
    }

    static class Steps extends Steep {
        @Override int costs(int u, int h) {
            return super.costs(u - u % 3, h);
        }

        @Override int ages(int u) {
            return super.ages(u) - 1;
        }
    }

    static class Night extends Flat {
        @Override int costs(int u, int h) {
            return h <= 5 ? 0 : super.costs(u, h);
        }
    }

    static class Rare extends Steep {
        @Override int costs(int u, int h) {
            return super.costs(u, h) + (u == 0 ? 5 : 0);
        }

        @Override int ages(int u) {
            return u < number ? 0 : super.ages(u);
        }
    }

    static final List<Class<? extends Law>> KINDS =
        List.of(Law.class, Steep.class, Flat.class, Steps.class, Night.class, Rare.class);

    static Law newLaw(int kind, int number) {
        Law law = switch (kind) {
            case 0 -> new Law();
            case 1 -> new Steep();
            case 2 -> new Flat();
            case 3 -> new Steps();
            case 4 -> new Night();
            default -> new Rare();
        };
        law.number = number;
        return law;
    }

    record Word(int thing, String letters) {
    }

    static final class Writer {
        int thing;
        int hour;
        int purse;

        Writer(int thing, int hour, int purse) {
            this.thing = thing;
            this.hour = hour;
            this.purse = purse;
        }
    }

    interface E extends ToIntFunction<Map<String, Integer>> {
    }

    record Text(E adds, E worth, E may) {
    }

    record Sheet(int sort, int[] row) {
    }

    record Kept(int[] used, List<Writer> writers, List<Integer> numbers, int words, int law, int rule) {
    }

    final int[] used = new int[8];
    final List<Word> words = new ArrayList<>();
    final List<Writer> wanting = new ArrayList<>();
    final List<Law> laws = new ArrayList<>(List.of(newLaw(0, 1)));
    final List<Text> texts = new ArrayList<>();
    final StringBuilder tape = new StringBuilder();
    final Sheet[] sheets = new Sheet[4];
    int theLaw = 0;
    int theRule = 0;
    Kept kept = null;

    PlainModel() {
        texts.add(new Text(n -> 0, n -> 50 - n.get("length"), n -> 1));
    }

    // ---- texts

    static final class Fault extends RuntimeException {
        private static final long serialVersionUID = 1L;
        final int place;

        Fault(int place) {
            this.place = place;
        }
    }

    /** Reads by what stands at the place, without tokens kept ahead. */
    static final class Parser {
        final String s;
        int at = 0;
        int open = 0;

        Parser(String s) {
            this.s = s;
        }

        /** The token that stands next, "" at the end; a wrong one throws its place. */
        String peek() {
            skip();
            if (at == s.length()) return "";
            int to = at;
            char c = s.charAt(at);
            if (c >= 'a' && c <= 'z') {
                while (to < s.length() && s.charAt(to) >= 'a' && s.charAt(to) <= 'z') to++;
                String word = s.substring(at, to);
                if (!NAMES.contains(word) && !KEYS.contains(word)) throw new Fault(at);
                return word;
            }
            if (c >= '0' && c <= '9') {
                while (to < s.length() && s.charAt(to) >= '0' && s.charAt(to) <= '9') to++;
                if (to - at > 4) throw new Fault(at);
                return s.substring(at, to);
            }
            if ("();+-*<=".indexOf(c) < 0) throw new Fault(at);
            return String.valueOf(c);
        }

        void skip() {
            while (at < s.length() && (s.charAt(at) == ' ' || s.charAt(at) == '\n')) at++;
        }

        boolean is(String token) {
            return peek().equals(token);
        }

        void take(String token) {
            if (!is(token)) throw new Fault(at);
            at += token.length();
        }

        void opens() {
            if (open == 5) throw new Fault(at);
            open++;
        }

        Text text() {
            take("adds");
            E adds = e();
            take(";");
            take("worth");
            E worth = e();
            take(";");
            take("may");
            E may = e();
            take(";");
            if (!is("")) throw new Fault(at);
            return new Text(adds, worth, may);
        }

        E e() {
            List<E> parts = new ArrayList<>(List.of(and()));
            while (is("or")) {
                take("or");
                parts.add(and());
            }
            if (parts.size() == 1) return parts.get(0);
            return n -> parts.stream().anyMatch(p -> p.applyAsInt(n) != 0) ? 1 : 0;
        }

        E and() {
            List<E> parts = new ArrayList<>(List.of(not()));
            while (is("and")) {
                take("and");
                parts.add(not());
            }
            if (parts.size() == 1) return parts.get(0);
            return n -> parts.stream().allMatch(p -> p.applyAsInt(n) != 0) ? 1 : 0;
        }

        E not() {
            if (is("not")) {
                opens();
                take("not");
                E inner = not();
                open--;
                return n -> inner.applyAsInt(n) == 0 ? 1 : 0;
            }
            E left = sum();
            if (is("<")) {
                take("<");
                E right = sum();
                return n -> left.applyAsInt(n) < right.applyAsInt(n) ? 1 : 0;
            }
            if (is("=")) {
                take("=");
                E right = sum();
                return n -> left.applyAsInt(n) == right.applyAsInt(n) ? 1 : 0;
            }
            return left;
        }

        E sum() {
            E all = term();
            while (is("+") || is("-")) {
                E left = all;
                String sign = peek();
                take(sign);
                E right = term();
                int by = sign.equals("+") ? 1 : -1;
                all = n -> left.applyAsInt(n) + by * right.applyAsInt(n);
            }
            return all;
        }

        E term() {
            E all = one();
            while (is("*")) {
                take("*");
                E left = all;
                E right = one();
                all = n -> left.applyAsInt(n) * right.applyAsInt(n);
            }
            return all;
        }

        E one() {
            String token = peek();
            if (token.equals("-")) {
                opens();
                take("-");
                E inner = one();
                open--;
                return n -> -inner.applyAsInt(n);
            }
            if (token.equals("(")) {
                opens();
                take("(");
                E inner = e();
                take(")");
                open--;
                return inner;
            }
            if (NAMES.contains(token)) {
                take(token);
                return n -> n.get(token);
            }
            if (token.isEmpty() || !Character.isDigit(token.charAt(0))) throw new Fault(at);
            take(token);
            int value = Integer.parseInt(token);
            return n -> value;
        }

        static final List<String> NAMES = List.of("used", "hour", "letter", "length", "purse", "many");
        static final List<String> KEYS = List.of("adds", "worth", "may", "or", "and", "not");
    }

    static Map<String, Integer> names(int used, int hour, int letter, int length, int purse, int many) {
        Map<String, Integer> names = new HashMap<>();
        names.put("used", used);
        names.put("hour", hour);
        names.put("letter", letter);
        names.put("length", length);
        names.put("purse", purse);
        names.put("many", many);
        return names;
    }

    static int bound(int v, int most) {
        return v < 0 ? 0 : Math.min(v, most);
    }

    // ---- a day

    /** A day in thought, with all that may be otherwise in it. */
    final class Day {
        int[] letters = used.clone();
        int[] hours = wanting.stream().mapToInt(w -> w.hour).toArray();
        Law law = laws.get(theLaw);
        final int[] said = new int[wanting.size()];
        final int[] paid = new int[wanting.size()];
        final int[] good = new int[wanting.size()];
        final int[][] ahead = new int[wanting.size()][];

        int write(Word word, int hour, int[] row) {
            int cost = 0;
            for (char c : word.letters.toCharArray()) {
                int l = c - '1';
                cost += Math.max(0, law.costs(row[l], hour));
                cost += bound(texts.get(theRule).adds.applyAsInt(names(row[l], hour, l, 0, 0, 0)), 99);
                row[l] = Math.min(999, row[l] + 1);
            }
            return cost;
        }

        Day live() {
            for (int hour = 0; hour < 24; hour++) {
                for (int w = 0; w < wanting.size(); w++) {
                    if (hours[w] == hour) turn(w, hour);
                }
                age(letters, law);
            }
            return this;
        }

        void turn(int w, int hour) {
            Writer writer = wanting.get(w);
            ahead[w] = letters.clone();
            said[w] = NONE;
            TreeMap<Integer, Integer> byCost = new TreeMap<>();
            for (int i = 0; i < words.size(); i++) {
                Word word = words.get(i);
                if (word.thing != writer.thing) continue;
                Map<String, Integer> names = names(0, hour, 0, word.letters.length(), writer.purse, wanting.size());
                if (texts.get(theRule).may.applyAsInt(names) == 0) continue;
                int cost = write(word, hour, letters.clone());
                if (cost <= writer.purse) byCost.putIfAbsent(cost, i);
            }
            if (byCost.isEmpty()) return;
            said[w] = byCost.firstEntry().getValue();
            Word word = words.get(said[w]);
            paid[w] = write(word, hour, letters);
            Map<String, Integer> names = names(0, hour, 0, word.letters.length(), writer.purse, wanting.size());
            good[w] = bound(texts.get(theRule).worth.applyAsInt(names), 999) - paid[w];
        }

        int allGood() {
            return Arrays.stream(good).sum();
        }

        int howMany() {
            return (int) Arrays.stream(said).filter(s -> s != NONE).count();
        }

        int judged(int[] row) {
            for (int w = 0; w < said.length; w++) {
                if (row[w] != (said[w] == NONE ? -1 : paid[w])) return w;
            }
            return NONE;
        }
    }

    static void age(int[] letters, Law law) {
        for (int l = 0; l < 8; l++) letters[l] = Math.max(0, law.ages(letters[l]));
    }

    Day dayAt(int writer, int hour) {
        Day day = new Day();
        day.hours[writer] = hour;
        return day.live();
    }

    Day dayBurned(int letter, int n) {
        Day day = new Day();
        day.letters[letter] = Math.min(999, day.letters[letter] + n);
        return day.live();
    }

    Day dayBy(Law law) {
        Day day = new Day();
        day.law = law;
        return day.live();
    }

    Day dayDrawn(int seed) {
        Day day = new Day();
        int z = seed;
        for (int l = 0; l < 8; l++) {
            z = z * 1103515245 + 12345;
            day.letters[l] = (z >>> 10) % 20;
        }
        return day.live();
    }

    // ---- the calls

    static boolean in(int v, int from, int to) {
        return from <= v && v <= to;
    }

    int set(int what, int of, int v) {
        int most = new int[] {999, 3, 23, 9999, 9, -1}[in(what, 0, 4) ? what : 5];
        int many = new int[] {8, wanting.size(), wanting.size(), wanting.size(), laws.size(), 0}[in(what, 0, 4) ? what : 5];
        if (!in(of, 0, many - 1) || !in(v, 0, most)) return BAD;
        int was = told(of, what);
        switch (what) {
            case 0 -> used[of] = v;
            case 1 -> wanting.get(of).thing = v;
            case 2 -> wanting.get(of).hour = v;
            case 3 -> wanting.get(of).purse = v;
            default -> laws.get(of).number = v;
        }
        return was;
    }

    int told(int of, int what) {
        if (of < 0) return BAD;
        if (what == 0) return of < 8 ? used[of] : BAD;
        if (in(what, 1, 3)) {
            if (of >= wanting.size()) return BAD;
            Writer w = wanting.get(of);
            return what == 1 ? w.thing : what == 2 ? w.hour : w.purse;
        }
        if (in(what, 4, 5)) {
            if (of >= laws.size()) return BAD;
            return what == 4 ? laws.get(of).number : KINDS.indexOf(laws.get(of).getClass());
        }
        if (in(what, 6, 7)) {
            if (of >= words.size()) return BAD;
            return what == 6 ? words.get(of).thing : words.get(of).letters.length();
        }
        return BAD;
    }

    int word(int thing, int letters) {
        String s = String.valueOf(letters);
        if (!in(thing, 0, 3) || !s.matches("[1-8]{1,6}")) return BAD;
        if (words.size() == 10) return FULL;
        words.add(new Word(thing, s));
        return words.size() - 1;
    }

    int writer(int thing, int hour, int purse) {
        if (!in(thing, 0, 3) || !in(hour, 0, 23) || !in(purse, 0, 9999)) return BAD;
        if (wanting.size() == 5) return FULL;
        wanting.add(new Writer(thing, hour, purse));
        return wanting.size() - 1;
    }

    int law(int kind, int number) {
        if (!in(kind, 0, 5) || !in(number, 0, 9)) return BAD;
        if (laws.size() == 6) return FULL;
        laws.add(newLaw(kind, number));
        return laws.size() - 1;
    }

    int rule(int law) {
        if (!in(law, 0, laws.size() - 1)) return BAD;
        int was = theLaw;
        theLaw = law;
        return was;
    }

    int feed(int letter) {
        if (!in(letter, 0, 255)) return BAD;
        if (tape.length() == 160) return FULL;
        tape.append((char) letter);
        return tape.length();
    }

    int text() {
        if (texts.size() == 6) return FULL;
        String s = tape.toString();
        tape.setLength(0);
        try {
            texts.add(new Parser(s).text());
            return texts.size() - 1;
        } catch (Fault f) {
            return -100 - f.place;
        }
    }

    int force(int text) {
        if (!in(text, 0, texts.size() - 1)) return BAD;
        int was = theRule;
        theRule = text;
        return was;
    }

    int costs(int word, int hour) {
        if (!in(word, 0, words.size() - 1) || !in(hour, 0, 23)) return BAD;
        return new Day().write(words.get(word), hour, used.clone());
    }

    int write(int word, int hour) {
        if (!in(word, 0, words.size() - 1) || !in(hour, 0, 23)) return BAD;
        return new Day().write(words.get(word), hour, used);
    }

    int pass(int n) {
        if (!in(n, 0, 24)) return BAD;
        for (int i = 0; i < n; i++) age(used, laws.get(theLaw));
        return Arrays.stream(used).sum();
    }

    int cheapest(int thing, int hour, int what) {
        if (!in(thing, 0, 3) || !in(hour, 0, 23) || !in(what, 0, 1)) return BAD;
        TreeMap<Integer, Integer> byCost = new TreeMap<>();
        for (int i = 0; i < words.size(); i++) {
            if (words.get(i).thing == thing) byCost.putIfAbsent(costs(i, hour), i);
        }
        if (byCost.isEmpty()) return NONE;
        return what == 0 ? byCost.firstEntry().getValue() : byCost.firstKey();
    }

    int day(int writer, int what) {
        if (!in(writer, 0, wanting.size() - 1) || !in(what, 0, 2)) return NO_SUCH;
        Day day = new Day().live();
        return what == 0 ? day.paid[writer] : what == 1 ? day.said[writer] : day.good[writer];
    }

    int all(int what) {
        Day day = new Day().live();
        return switch (what) {
            case 0 -> day.allGood();
            case 1 -> day.howMany();
            case 2 -> Arrays.stream(day.letters).max().getAsInt() - Arrays.stream(day.letters).min().getAsInt();
            case 3 -> Arrays.stream(day.paid).sum();
            default -> NO_SUCH;
        };
    }

    int when(int writer, int what) {
        if (!in(writer, 0, wanting.size() - 1) || !in(what, 0, 1)) return NO_SUCH;
        int hour = 0;
        for (int h = 23; h >= 0; h--) {
            if (dayAt(writer, h).good[writer] >= dayAt(writer, hour).good[writer]) hour = h;
        }
        return what == 0 ? hour : dayAt(writer, hour).good[writer];
    }

    int choose(int writer) {
        int good = when(writer, 1);
        int hour = when(writer, 0);
        if (good != NO_SUCH) wanting.get(writer).hour = hour;
        return good;
    }

    int rest() {
        for (int w = 0; w < wanting.size(); w++) {
            for (int h = 0; h < 24; h++) {
                if (dayAt(w, h).good[w] > new Day().live().good[w]) return 0;
            }
        }
        return 1;
    }

    int turns(int what) {
        if (!in(what, 0, 1)) return NO_SUCH;
        int[] best = null;
        for (int[] way : ways(Math.min(4, wanting.size()))) {
            Day day = new Day();
            int digits = 0;
            for (int i = 0; i < way.length; i++) {
                day.hours[i] = wanting.get(way[i]).hour;
                digits = digits * 10 + way[i];
            }
            int good = day.live().allGood();
            if (best == null || good > best[0] || good == best[0] && digits < best[1]) best = new int[] {good, digits};
        }
        return best[what];
    }

    static List<int[]> ways(int n) {
        List<int[]> ways = new ArrayList<>();
        if (n == 0) return List.of(new int[0]);
        for (int[] less : ways(n - 1)) {
            for (int at = 0; at < n; at++) {
                int[] way = new int[n];
                System.arraycopy(less, 0, way, 0, at);
                way[at] = n - 1;
                System.arraycopy(less, at, way, at + 1, n - 1 - at);
                ways.add(way);
            }
        }
        return ways;
    }

    int burn(int letter, int n) {
        if (!in(letter, 0, 7) || !in(n, 1, 20)) return NO_SUCH;
        return new Day().live().allGood() - dayBurned(letter, n).allGood();
    }

    int worst(int n, int what) {
        if (!in(n, 1, 20) || !in(what, 0, 1)) return NO_SUCH;
        int letter = 7;
        for (int l = 6; l >= 0; l--) {
            if (burn(l, n) >= burn(letter, n)) letter = l;
        }
        return what == 0 ? letter : burn(letter, n);
    }

    int best(int what) {
        if (!in(what, 0, 2)) return NO_SUCH;
        List<int[]> by = new ArrayList<>();
        for (int l = 0; l < laws.size(); l++) {
            Day day = dayBy(laws.get(l));
            by.add(new int[] {l, day.howMany(), day.allGood()});
        }
        by.sort((a, b) -> a[1] != b[1] ? b[1] - a[1] : a[2] != b[2] ? b[2] - a[2] : a[0] - b[0]);
        return by.get(0)[what];
    }

    private int unjudged(int sheet) {
        if (!in(sheet, 0, 3)) return BAD;
        if (sheets[sheet] == null) return -11;
        return sheets[sheet].row.length == wanting.size() ? 0 : BAD;
    }

    int judge(int sheet) {
        int refusal = unjudged(sheet);
        return refusal != 0 ? refusal : new Day().live().judged(sheets[sheet].row);
    }

    int fits(int writer, int sum) {
        if (!in(writer, 0, wanting.size() - 1) || !in(sum, 0, 9999)) return BAD;
        Day day = new Day().live();
        int bits = 0;
        for (int i = 0; i < words.size(); i++) {
            if (words.get(i).thing != wanting.get(writer).thing) continue;
            int cost = day.write(words.get(i), wanting.get(writer).hour, day.ahead[writer].clone());
            if (cost == sum) bits += 1 << i;
        }
        return bits;
    }

    int whose(int sheet) {
        int refusal = unjudged(sheet);
        if (refusal != 0) return refusal;
        int bits = 0;
        for (int l = 0; l < laws.size(); l++) {
            if (dayBy(laws.get(l)).judged(sheets[sheet].row) == NONE) bits += 1 << l;
        }
        return bits;
    }

    int drawn(int seed) {
        return dayDrawn(seed).allGood();
    }

    long chance(int seed, int n, int part) {
        if (!in(n, 1, 20) || !in(part, 0, 1)) return -4611686018427387904L;
        long all = 0;
        for (int i = 0; i < n; i++) {
            if (dayDrawn(seed + i).howMany() == wanting.size()) all++;
        }
        long shared = java.math.BigInteger.valueOf(all).gcd(java.math.BigInteger.valueOf(n)).longValue();
        return part == 0 ? all / shared : n / shared;
    }

    int image() {
        List<Writer> writers = new ArrayList<>();
        for (Writer w : wanting) writers.add(new Writer(w.thing, w.hour, w.purse));
        List<Integer> numbers = new ArrayList<>();
        for (Law l : laws) numbers.add(l.number);
        kept = new Kept(used.clone(), writers, numbers, words.size(), theLaw, theRule);
        return wanting.size();
    }

    int back() {
        if (kept == null) return STATE;
        System.arraycopy(kept.used, 0, used, 0, 8);
        wanting.clear();
        for (Writer w : kept.writers) wanting.add(new Writer(w.thing, w.hour, w.purse));
        while (laws.size() > kept.numbers.size()) laws.remove(laws.size() - 1);
        for (int i = 0; i < laws.size(); i++) laws.get(i).number = kept.numbers.get(i);
        while (words.size() > kept.words) words.remove(words.size() - 1);
        theLaw = kept.law;
        theRule = kept.rule;
        return wanting.size();
    }

    int count(int what) {
        return switch (what) {
            case 0 -> words.size();
            case 1 -> wanting.size();
            case 2 -> laws.size();
            case 3 -> theLaw;
            case 4 -> texts.size();
            case 5 -> tape.length();
            case 6 -> theRule;
            case 7 -> Arrays.stream(used).sum();
            default -> BAD;
        };
    }

    int sheet(int sheet, int sort, int n) {
        if (!in(sheet, 0, 3) || !in(sort, -1, 2)) return BAD;
        if (sort != -1 && n > 40) return BAD;
        if (sort != -1 && n < 0) return -14;
        sheets[sheet] = sort == -1 ? null : new Sheet(sort, new int[n]);
        return 1;
    }

    int cell(int sheet, int i, int v) {
        if (!in(sheet, 0, 3)) return BAD;
        if (sheets[sheet] == null) return -11;
        if (!in(i, 0, sheets[sheet].row.length - 1)) return -12;
        sheets[sheet].row[i] = sheets[sheet].sort == 0 ? (byte) v : sheets[sheet].sort == 1 ? (short) v : v;
        return 1;
    }

    int copy(int sheet, int i, int other, int j, int n) {
        if (!in(sheet, 0, 3) || !in(other, 0, 3)) return BAD;
        if (sheets[sheet] == null || sheets[other] == null) return -11;
        if (sheets[sheet].sort != sheets[other].sort) return -13;
        if (i < 0 || j < 0 || n < 0) return -12;
        if ((long) i + n > sheets[sheet].row.length || (long) j + n > sheets[other].row.length) return -12;
        int[] were = sheets[sheet].row.clone();
        for (int k = 0; k < n; k++) sheets[other].row[j + k] = were[i + k];
        return n;
    }

    int writers(int sheet, int sort, int from, int n) {
        if (!in(sheet, 0, 3) || !in(sort, 0, 2) || !in(n, 0, 5)) return BAD;
        if (sheets[sheet] != null && sheets[sheet].sort != sort) return -13;
        if (sheets[sheet] == null) return -11;
        int came = 0;
        for (long k = 0; k < n; k++) {
            int[] three = new int[3];
            for (int p = 0; p < 3; p++) {
                long at = from + 3 * k + p;
                if (at < 0 || at >= sheets[sheet].row.length) return -12;
                three[p] = sheets[sheet].row[(int) at];
            }
            if (writer(three[0], three[1], three[2]) >= 0) came++;
        }
        return came;
    }

    int taken(int law, int k) {
        if (!in(k, 0, 5)) return BAD;
        if (!in(law, 0, laws.size() - 1)) return -11;
        return KINDS.get(k).isInstance(laws.get(law)) ? laws.get(law).number : -13;
    }
}
