import java.util.ArrayList;
import java.util.List;

/**
 * All that can be seen of an object: its answers to a long row of calls, which spoil it. Two objects of which one was
 * changed are seen to differ; cells are seen as far as they hold what a writer may have.
 */
final class Look {
    private final DearerByUse x;
    private final List<String> seen = new ArrayList<>();

    private Look(DearerByUse x) {
        this.x = x;
    }

    static List<String> at(DearerByUse x) {
        Look look = new Look(x);
        look.counts();
        look.things();
        look.days();
        look.sheets();
        look.texts();
        look.see("back()", x.back());
        look.counts();
        look.things();
        look.cells();
        return look.seen;
    }

    private void see(String call, long answer) {
        seen.add(call + "=" + answer);
    }

    private void counts() {
        for (int what = 0; what < 8; what++) see("count(" + what + ")", x.count(what));
    }

    private void things() {
        int[] many = {8, x.count(1), x.count(1), x.count(1), x.count(2), x.count(2), x.count(0), x.count(0)};
        for (int what = 0; what < 8; what++) {
            for (int of = 0; of < many[what]; of++) see("told(" + of + "," + what + ")", x.told(of, what));
        }
        for (int word = 0; word < x.count(0); word++) see("costs(" + word + ",8)", x.costs(word, 8));
    }

    private void days() {
        for (int writer = 0; writer < x.count(1); writer++) {
            see("day(" + writer + ",0)", x.day(writer, 0));
            see("day(" + writer + ",1)", x.day(writer, 1));
        }
        for (int what = 0; what < 4; what++) see("all(" + what + ")", x.all(what));
        see("turns(1)", x.turns(1));
        see("best(2)", x.best(2));
    }

    /** Which sheets there are, of which size and sort, without a change. */
    private void sheets() {
        for (int sheet = 0; sheet < 4; sheet++) {
            for (int n = 0; n <= 8; n++) see("size " + n + " of " + sheet, x.copy(sheet, 0, sheet, 0, n));
            see("size 40 of " + sheet, x.copy(sheet, 40, sheet, 40, 0));
            for (int sort = 0; sort < 3; sort++) see("sort of " + sheet, x.writers(sheet, sort, 0, 0));
        }
    }

    /** What the tape tells, and what each text comes to. */
    private void texts() {
        see("text()", x.text());
        for (int text = 0; text < x.count(4); text++) {
            x.force(text);
            for (int word = 0; word < Math.min(2, x.count(0)); word++) see("costs by " + text, x.costs(word, 3));
            see("all(0) by " + text, x.all(0));
        }
    }

    /** Items three by three, by the writers that they make: as far as there is room for one. */
    private void cells() {
        int many = x.image();
        for (int sheet = 0; sheet < 4; sheet++) {
            for (int from = 0; from <= 3; from += 3) {
                for (int sort = 0; sort < 3; sort++) {
                    if (x.writers(sheet, sort, from, 1) != 1) continue;
                    for (int what = 1; what <= 3; what++) see("item of " + sheet, x.told(many, what));
                }
                x.back();
            }
        }
    }
}
