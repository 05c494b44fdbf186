import java.lang.reflect.InvocationTargetException;
import java.lang.reflect.Method;
import java.lang.reflect.Modifier;
import java.util.ArrayList;
import java.util.HashMap;
import java.util.List;
import java.util.Map;
import java.util.Set;
import java.util.TreeSet;
import java.util.regex.Matcher;
import java.util.regex.Pattern;

/**
 * Runs of calls told as text, each for one sentence of the document: "set(0,7,5)=0 told(7,0)=5" makes two calls of an
 * object, and each must answer what stands behind its sign. A call without one may answer anything. 'adds 1;..'=1 feeds
 * what stands between the quotes byte by byte, and then answers as text() does.
 */
final class Script {
    private static final Pattern STEP = Pattern.compile("\\G\\s*(?:(\\w+)\\(([-\\d,]*)\\)|'([^']*)')(?:=(-?\\d+))?(?=\\s|$)");
    private static final int CALLS = 512;
    private static final Map<String, Method> METHODS = methods();
    private static final Set<String> told = new TreeSet<>();

    private Script() {
    }

    private static Map<String, Method> methods() {
        Map<String, Method> methods = new HashMap<>();
        for (Method m : DearerByUse.class.getDeclaredMethods()) {
            if (Modifier.isPublic(m.getModifiers())) methods.put(m.getName(), m);
        }
        return methods;
    }

    /** A sentence, told as "P2 what it says", holds in a run of calls on a new object. */
    static void holds(String sentence, String... run) {
        told.add(sentence.substring(0, sentence.indexOf(' ')));
        go(new DearerByUse(), sentence, run);
    }

    /** Makes the calls of a run: how many they were. */
    static int go(DearerByUse x, String sentence, String... run) {
        String all = String.join(" ", run).stripTrailing();
        Matcher step = STEP.matcher(all);
        StringBuilder ahead = new StringBuilder();
        int end = 0;
        int calls = 0;
        while (step.find()) {
            long got = step.group(1) == null ? Checks.text(x, step.group(3)) : call(x, step.group(1), step.group(2));
            calls += step.group(1) == null ? step.group(3).length() + 1 : 1;
            if (step.group(4) != null && got != Long.parseLong(step.group(4))) {
                Checks.due(sentence + ":" + ahead + step.group().replaceAll("=-?\\d+$", ""), got, Long.parseLong(step.group(4)));
            } else if (step.group(4) != null) {
                Checks.due(sentence, got, got);
            }
            ahead.append(step.group());
            end = step.end();
        }
        if (end != all.length()) throw new IllegalArgumentException("no call stands at " + all.substring(end));
        if (calls > CALLS) throw new IllegalArgumentException(sentence + ": an object is used for 512 calls at most");
        return calls;
    }

    static long call(DearerByUse x, String name, String arguments) {
        Method method = METHODS.get(name);
        if (method == null) throw new IllegalArgumentException("no such call: " + name);
        String[] parts = arguments.isEmpty() ? new String[0] : arguments.split(",");
        Object[] values = new Object[parts.length];
        for (int i = 0; i < parts.length; i++) values[i] = Integer.parseInt(parts[i]);
        try {
            return ((Number) method.invoke(x, values)).longValue();
        } catch (IllegalAccessException | InvocationTargetException e) {
            throw new IllegalStateException(name + "(" + arguments + ") threw " + e.getCause(), e);
        }
    }

    /** A call answers as it should, and it leaves all as it was: two objects with the same run, one of which is asked. */
    static void changesNothing(String sentence, String run, String... calls) {
        told.add(sentence.substring(0, sentence.indexOf(' ')));
        DearerByUse untouched = new DearerByUse();
        go(untouched, sentence, run);
        List<String> due = Look.at(untouched);
        for (String call : calls) {
            DearerByUse x = new DearerByUse();
            int made = go(x, sentence + ", in a run", run) + go(x, sentence, call);
            List<String> seen = Look.at(x);
            if (made + due.size() > CALLS) throw new IllegalArgumentException(sentence + ": more than 512 calls with the look");
            List<String> unlike = new ArrayList<>();
            if (seen.size() != due.size()) unlike.add(seen.size() + " answers instead of " + due.size());
            for (int i = 0; i < Math.min(due.size(), seen.size()); i++) {
                if (!due.get(i).equals(seen.get(i))) unlike.add(seen.get(i) + " instead of " + due.get(i));
            }
            Checks.due(sentence + ": " + call + " left " + unlike, unlike.size(), 0);
        }
    }

    /** Each of these promises (from one to another) must have had a sentence at least. */
    static void end(String name, int from, int to) {
        for (int promise = from; promise <= to; promise++) {
            Checks.due("sentences of promise " + promise, told.contains("P" + promise) ? 1 : 0, 1);
        }
        Checks.end(name);
    }
}
