import java.util.function.Supplier;
import java.util.function.ToIntFunction;

/**
 * Each refused call that is not only out of range: NOT_POSSIBLE, LIMIT_REACHED, NOT_FOUND, and which of
 * several errors is returned. That it changes nothing is checked each time.
 */
final class RefusalsTest {
    private RefusalsTest() {
    }

    public static void main(String[] args) {
        files();
        clearValue();
        questions();
        order();
        merge();
        stack();
        putInto();
        takeOutAndCover();
        text();
        noRule();
        albumsNamed();
        makeAlbum();
        removeAlbum();
        changeRule();
        journal();
        Due.end();
    }

    private static void refused(String what, Supplier<MediaCatalog> maker, int due, ToIntFunction<MediaCatalog> call) {
        Twins.refused(what, maker, call, due);
    }

    private static MediaCatalog with(MediaCatalog x, String rule) {
        Due.rule(x, rule);
        return x;
    }

    private static void files() {
        refused("add: 41st", States::full, Due.LIMIT, x -> x.add(0, 1));
        refused("add: 41st, greatest arguments", States::full, Due.LIMIT, x -> x.add(9999, 100000));
        refused("add: INVALID before LIMIT, digest below", States::full, Due.INVALID, x -> x.add(-1, 1));
        refused("add: INVALID before LIMIT, digest above", States::full, Due.INVALID, x -> x.add(10000, 1));
        refused("add: INVALID before LIMIT, size below", States::full, Due.INVALID, x -> x.add(0, 0));
        refused("add: INVALID before LIMIT, size above", States::full, Due.INVALID, x -> x.add(0, 100001));
        refused("setDigest: no file and out of range", States::busy, Due.INVALID, x -> x.setDigest(12, -1));
        refused("setValue: all out of range", States::busy, Due.INVALID, x -> x.setValue(40, 3, 6, -1));
        refused("setValue: a value of another field", States::busy, Due.INVALID, x -> x.setValue(0, 0, 2, 5));
    }

    private static void clearValue() {
        refused("clearValue: none", States::busy, Due.MISSING, x -> x.clearValue(0, 2, 1));
        refused("clearValue: only others have it", States::busy, Due.MISSING, x -> x.clearValue(7, 0, 1));
        refused("clearValue: no tags", States::busy, Due.MISSING, x -> x.clearValue(0, 2, 5));
        refused("clearValue: twice", () -> {
            MediaCatalog x = States.busy();
            x.clearValue(0, 0, 1);
            return x;
        }, Due.MISSING, x -> x.clearValue(0, 0, 1));
        refused("clearValue: INVALID before NOT_FOUND", States::busy, Due.INVALID, x -> x.clearValue(12, 0, 4));
    }

    private static void questions() {
        refused("value: none", States::busy, Due.MISSING, x -> x.value(0, 4));
        refused("value: INVALID before NOT_FOUND", States::busy, Due.INVALID, x -> x.value(12, 4));
        refused("sourceOf: none", States::busy, Due.MISSING, x -> x.sourceOf(0, 4));
        refused("sourceOf: INVALID before NOT_FOUND", States::busy, Due.INVALID, x -> x.sourceOf(12, 4));
        refused("stackOf: none", States::busy, Due.MISSING, x -> x.stackOf(2));
        refused("stackAt: one beyond the last", States::busy, Due.MISSING, x -> x.stackAt(0, 3));
        refused("stackAt: INVALID before NOT_FOUND", States::busy, Due.INVALID, x -> x.stackAt(3, 3));
        refused("viewAt: one beyond the last", States::busy, Due.MISSING, x -> x.viewAt(0, x.viewSize(0)));
        refused("viewAt: INVALID before NOT_FOUND", States::busy, Due.INVALID, x -> x.viewAt(4, 40));
    }

    private static void order() {
        int[][] wrong = {{0, 0, 0}, {0, 0, 1}, {0, 1, 0}, {1, 0, 0}, {2, 2, 1}, {2, 1, 2}, {1, 2, 2}, {1, 1, 1},
            {2, 2, 2}, {1, 1, 0}, {-1, 1, 2}, {0, 3, 2}, {0, 1, 4}, {3, 4, 5}, {-1, -2, -3}};
        for (int[] order : wrong) {
            refused("setOrder: " + order[0] + order[1] + order[2], States::busy, Due.INVALID,
                    x -> x.setOrder(order[0], order[1], order[2]));
        }
    }

    private static void merge() {
        refused("merge: alone", States::busy, Due.IMPOSSIBLE, x -> x.merge(5));
        refused("merge: alone in a stack", States::busy, Due.IMPOSSIBLE, x -> x.merge(8));
        refused("merge: alone by another digest", () -> {
            MediaCatalog x = States.busy();
            x.setDigest(10, 0);
            return x;
        }, Due.IMPOSSIBLE, x -> x.merge(11));
    }

    private static void stack() {
        refused("stack: both the same", States::busy, Due.INVALID, x -> x.stack(2, 2));
        refused("stack: first belongs to one", States::busy, Due.IMPOSSIBLE, x -> x.stack(0, 2));
        refused("stack: second belongs to one", States::busy, Due.IMPOSSIBLE, x -> x.stack(2, 0));
        refused("stack: both belong to the same one", States::busy, Due.IMPOSSIBLE, x -> x.stack(0, 3));
        refused("stack: both belong to others", States::busy, Due.IMPOSSIBLE, x -> x.stack(0, 1));
        refused("stack: both the same, in a stack", States::busy, Due.INVALID, x -> x.stack(0, 0));
        refused("stack: no file, and one in a stack", States::busy, Due.INVALID, x -> x.stack(0, 12));
        refused("stack: no file, and one in a stack", States::busy, Due.INVALID, x -> x.stack(12, 0));
        refused("stack: 11th", States::full, Due.LIMIT, x -> x.stack(26, 39));
        refused("stack: NOT_POSSIBLE before LIMIT, first", States::full, Due.IMPOSSIBLE, x -> x.stack(25, 39));
        refused("stack: NOT_POSSIBLE before LIMIT, second", States::full, Due.IMPOSSIBLE, x -> x.stack(39, 25));
        refused("stack: INVALID before LIMIT, no file", States::full, Due.INVALID, x -> x.stack(39, 40));
        refused("stack: INVALID before LIMIT, the same", States::full, Due.INVALID, x -> x.stack(39, 39));
        refused("stack: INVALID before both", States::full, Due.INVALID, x -> x.stack(25, 40));
        refused("stack: INVALID before both, the same", States::full, Due.INVALID, x -> x.stack(25, 25));
    }

    private static void putInto() {
        refused("putInto: belongs to it", States::busy, Due.IMPOSSIBLE, x -> x.putInto(0, 3, 0));
        refused("putInto: belongs to another", States::busy, Due.IMPOSSIBLE, x -> x.putInto(0, 4, 0));
        refused("putInto: place above, belongs to one", States::busy, Due.INVALID, x -> x.putInto(0, 4, 4));
        refused("putInto: no stack, belongs to one", States::busy, Due.INVALID, x -> x.putInto(3, 4, 0));
        refused("putInto: ninth, first", States::full, Due.LIMIT, x -> x.putInto(0, 39, 0));
        refused("putInto: ninth, last", States::full, Due.LIMIT, x -> x.putInto(0, 39, 8));
        refused("putInto: INVALID before LIMIT, place above", States::full, Due.INVALID, x -> x.putInto(0, 39, 9));
        refused("putInto: INVALID before LIMIT, place below", States::full, Due.INVALID, x -> x.putInto(0, 39, -1));
        refused("putInto: INVALID before LIMIT, no file", States::full, Due.INVALID, x -> x.putInto(0, 40, 0));
        refused("putInto: NOT_POSSIBLE before LIMIT", States::full, Due.IMPOSSIBLE, x -> x.putInto(0, 25, 8));
        refused("putInto: NOT_POSSIBLE before LIMIT, its own", States::full, Due.IMPOSSIBLE, x -> x.putInto(0, 7, 0));
        refused("putInto: INVALID before both", States::full, Due.INVALID, x -> x.putInto(0, 25, 9));
    }

    private static void takeOutAndCover() {
        refused("takeOut: belongs to none", States::busy, Due.IMPOSSIBLE, x -> x.takeOut(2));
        refused("takeOut: left of a removed stack", States::holes, Due.IMPOSSIBLE, x -> x.takeOut(7));
        refused("chooseCover: belongs to none", States::busy, Due.IMPOSSIBLE, x -> x.chooseCover(0, 2));
        refused("chooseCover: belongs to another", States::busy, Due.IMPOSSIBLE, x -> x.chooseCover(1, 0));
        refused("chooseCover: no stack, belongs to none", States::busy, Due.INVALID, x -> x.chooseCover(3, 2));
        refused("chooseCover: below -1", States::busy, Due.INVALID, x -> x.chooseCover(1, -2));
        refused("collapse: both out of range", States::busy, Due.INVALID, x -> x.collapse(3, 2));
    }

    private static void text() {
        refused("type: 81st", States::full, Due.LIMIT, x -> x.type('s'));
        refused("type: 81st, least", States::full, Due.LIMIT, x -> x.type(33));
        refused("type: 81st, greatest", States::full, Due.LIMIT, x -> x.type(126));
        refused("type: INVALID before LIMIT, below", States::full, Due.INVALID, x -> x.type(32));
        refused("type: INVALID before LIMIT, above", States::full, Due.INVALID, x -> x.type(127));
        refused("fault: of a rule", States::busy, Due.MISSING, x -> x.fault());
    }

    /** Each call that needs a rule, with texts that are none; also where something else is wrong, too. */
    private static void noRule() {
        String[] texts = {"", "b&", "(b", "b)", "r>", "a", "t", "!", "b~b", "k=123456",
            "(".repeat(11) + "b" + ")".repeat(11)};
        for (String text : texts) {
            Supplier<MediaCatalog> busy = () -> with(States.busy(), text);
            Supplier<MediaCatalog> full = () -> with(States.full(), text);
            refused("satisfies: no rule " + text, busy, Due.IMPOSSIBLE, x -> x.satisfies(0));
            refused("satisfies: INVALID before no rule " + text, busy, Due.INVALID, x -> x.satisfies(12));
            refused("select: no rule " + text, busy, Due.IMPOSSIBLE, x -> x.select());
            refused("makeAlbum: no rule " + text, busy, Due.IMPOSSIBLE, x -> x.makeAlbum());
            refused("makeAlbum: NOT_POSSIBLE before LIMIT " + text, full, Due.IMPOSSIBLE, x -> x.makeAlbum());
            refused("changeRule: no rule " + text, busy, Due.IMPOSSIBLE, x -> x.changeRule(0));
            refused("changeRule: INVALID before no rule " + text, busy, Due.INVALID, x -> x.changeRule(4));
        }
    }

    /** The same with rules that name albums that do not exist; busy has the albums 0 to 3. */
    private static void albumsNamed() {
        String[] texts = {"a4", "a8", "a9", "b|a4", "a0&a1|!(a2|a3|a4)", "a9&a0"};
        for (String text : texts) {
            Supplier<MediaCatalog> busy = () -> with(States.busy(), text);
            refused("fault: a rule nevertheless " + text, busy, Due.MISSING, x -> x.fault());
            refused("satisfies: " + text, busy, Due.IMPOSSIBLE, x -> x.satisfies(0));
            refused("satisfies: INVALID before " + text, busy, Due.INVALID, x -> x.satisfies(12));
            refused("select: " + text, busy, Due.IMPOSSIBLE, x -> x.select());
            refused("makeAlbum: " + text, busy, Due.IMPOSSIBLE, x -> x.makeAlbum());
            refused("changeRule: " + text, busy, Due.IMPOSSIBLE, x -> x.changeRule(3));
            refused("changeRule: INVALID before " + text, busy, Due.INVALID, x -> x.changeRule(4));
        }
    }

    private static void makeAlbum() {
        refused("makeAlbum: ninth", States::full, Due.LIMIT, x -> x.makeAlbum());
        refused("makeAlbum: ninth, names a lower one", () -> with(States.full(), "a0"), Due.LIMIT, x -> x.makeAlbum());
        refused("makeAlbum: NOT_POSSIBLE before LIMIT, a8", () -> with(States.full(), "a8"), Due.IMPOSSIBLE,
                x -> x.makeAlbum());
        refused("makeAlbum: NOT_POSSIBLE before LIMIT, a9", () -> with(States.full(), "b|a9"), Due.IMPOSSIBLE,
                x -> x.makeAlbum());
        refused("makeAlbum: names itself", () -> with(gap(), "a5"), Due.IMPOSSIBLE, x -> x.makeAlbum());
        refused("makeAlbum: names one that exists, but is greater", () -> with(gap(), "b|a6"), Due.IMPOSSIBLE,
                x -> x.makeAlbum());
        refused("makeAlbum: names the greatest one", () -> with(gap(), "a7"), Due.IMPOSSIBLE, x -> x.makeAlbum());
        Due.is("makeAlbum: names the one below", with(gap(), "a4").makeAlbum(), 5);
    }

    /** The album 5 is free, 0 to 4, 6 and 7 exist. */
    private static MediaCatalog gap() {
        MediaCatalog x = States.albums();
        x.removeAlbum(5);
        return x;
    }

    private static void removeAlbum() {
        refused("removeAlbum: named", States::busy, Due.IMPOSSIBLE, x -> x.removeAlbum(0));
        refused("removeAlbum: named behind a sign", States::busy, Due.IMPOSSIBLE, x -> x.removeAlbum(1));
        refused("removeAlbum: INVALID though the text names it", () -> with(States.busy(), "a4"), Due.INVALID,
                x -> x.removeAlbum(4));
        refused("removeAlbum: named at the end of 80 characters", () -> {
            MediaCatalog x = with(States.albums(), "!".repeat(78) + "a6");
            x.changeRule(7);
            return x;
        }, Due.IMPOSSIBLE, x -> x.removeAlbum(6));
    }

    private static void changeRule() {
        for (int album = 0; album < 8; album++) {
            int changed = album;
            for (int other = 0; other <= 9; other++) {
                String text = "u|a" + other;
                if (other >= album) {
                    refused("changeRule: " + album + " to " + text, () -> with(States.albums(), text), Due.IMPOSSIBLE,
                            x -> x.changeRule(changed));
                } else {
                    Due.is("changeRule: " + album + " to " + text, with(States.albums(), text).changeRule(changed), 40);
                }
            }
        }
        refused("changeRule: names a lower one that was removed", () -> with(gap(), "a5"), Due.IMPOSSIBLE,
                x -> x.changeRule(7));
    }

    private static void journal() {
        refused("journalAt: empty", States::pairs, Due.MISSING, x -> x.journalAt(0, 0));
        refused("journalAt: the 25th", States::full, Due.MISSING, x -> x.journalAt(24, 0));
        refused("journalAt: INVALID before NOT_FOUND, what above", States::full, Due.INVALID, x -> x.journalAt(24, 3));
        refused("journalAt: INVALID before NOT_FOUND, what below", States::full, Due.INVALID, x -> x.journalAt(24, -1));
        refused("turnover: both out of range", States::full, Due.INVALID, x -> x.turnover(8, 2));
    }
}
