/** What the tests share: answers that are due, and texts fed byte by byte. */
final class Checks {
    private static final long PATIENCE = 300_000;
    private static int wrong = 0;
    private static int made = 0;

    static {
        mustEnd();
    }

    private Checks() {
    }

    /** A call that fails to end is a wrong answer, too: a test that takes far too long fails by itself. */
    private static void mustEnd() {
        Thread watch = new Thread(() -> {
            try {
                Thread.sleep(PATIENCE);
            } catch (InterruptedException e) {
                return;
            }
            System.out.println("a call does not end");
            Runtime.getRuntime().halt(1);
        });
        watch.setDaemon(true);
        watch.start();
    }

    static void due(String call, long got, long want) {
        made++;
        if (got == want) return;
        wrong++;
        if (wrong <= 40) System.out.println(call + " answered " + got + ", due is " + want);
    }

    static void feed(DearerByUse x, String text) {
        for (int i = 0; i < text.length(); i++) x.feed(text.charAt(i));
    }

    /** Feeds a text and reads it: what text() answers. */
    static int text(DearerByUse x, String text) {
        feed(x, text);
        return x.text();
    }

    /** Reads a text that must be right, and makes it THE RULE. */
    static void ruled(DearerByUse x, String text) {
        int number = text(x, text);
        if (number < 0) due("text() of " + text, number, 1);
        x.force(number);
    }

    static void end(String name) {
        System.out.println(name + ": " + made + " answers, " + wrong + " wrong");
        if (wrong != 0) System.exit(1);
    }
}
