import java.util.function.Supplier;

/**
 * All promises with arguments: each argument at the ends of its range, next to them outside and far away,
 * and the numbers of files, stacks and albums that do not exist.
 */
final class ArgumentsTest {
    private static final int[] LEAST = {0, 0, 1900, 0, 0, 0};
    private static final int[] GREATEST = {2, 5, 2100, 20, 9999, 1023};

    private interface Call {
        int ask(MediaCatalog x, int argument);
    }

    private ArgumentsTest() {
    }

    public static void main(String[] args) {
        files();
        fields();
        values();
        order();
        duplicates();
        stacks();
        rules();
        albums();
        views();
        journal();
        noSuchFile();
        noSuchStack();
        noSuchAlbum();
        nothingThereYet();
        Due.end();
    }

    /** Both ends of a range have the answers that are due; outside the call is refused. */
    private static void range(String what, Supplier<MediaCatalog> maker, int least, int greatest, Call call,
            int dueAtLeast, int dueAtGreatest) {
        Due.is(what + " " + least, call.ask(maker.get(), least), dueAtLeast);
        Due.is(what + " " + greatest, call.ask(maker.get(), greatest), dueAtGreatest);
        int[] outside = {least - 1, greatest + 1, Integer.MIN_VALUE, Integer.MAX_VALUE};
        for (int argument : outside) {
            invalid(what, maker, call, argument);
        }
    }

    /** A place or index, which is 0 or more. */
    private static void fromZero(String what, Supplier<MediaCatalog> maker, Call call, int dueAtZero) {
        Due.is(what + " 0", call.ask(maker.get(), 0), dueAtZero);
        Due.is(what + " far away", call.ask(maker.get(), Integer.MAX_VALUE), Due.MISSING);
        invalid(what, maker, call, -1);
        invalid(what, maker, call, Integer.MIN_VALUE);
    }

    private static void invalid(String what, Supplier<MediaCatalog> maker, Call call, int argument) {
        Twins.refused(what + " " + argument, maker, x -> call.ask(x, argument), Due.INVALID);
    }

    /** A value that every field but the year can have. */
    private static int some(int field) {
        return field == 2 ? 1900 : 1;
    }

    private static int setAndClear(MediaCatalog x, int file, int source, int field) {
        x.setValue(file, source, field, some(field));
        return x.clearValue(file, source, field);
    }

    private static int rateAndAsk(MediaCatalog x, int file) {
        x.setValue(file, 2, 1, 0);
        return x.sourceOf(file, 1);
    }

    private static void files() {
        Supplier<MediaCatalog> three = () -> Due.catalogOf(3);
        range("add: digest", three, 0, 9999, (x, a) -> x.add(a, 5), 3, 3);
        range("add: size", three, 1, 100000, (x, a) -> x.add(5, a), 3, 3);
        range("remove: file", States::full, 0, 39, (x, a) -> x.remove(a), 39, 39);
        range("setDigest: file", States::full, 0, 39, (x, a) -> x.setDigest(a, 5), 100, 119);
        range("setDigest: digest", States::full, 0, 9999, (x, a) -> x.setDigest(0, a), 100, 100);
        range("setValue: file", States::full, 0, 39, (x, a) -> x.setValue(a, 0, 0, 0), Due.MISSING, Due.MISSING);
        range("clearValue: file", States::full, 0, 39, (x, a) -> setAndClear(x, a, 2, 5), 1, 1);
        range("value: file", States::full, 0, 39, (x, a) -> x.value(a, 7), 10, 49);
        range("sourceOf: file", States::full, 0, 39, (x, a) -> rateAndAsk(x, a), 2, 2);
    }

    private static void fields() {
        range("setValue: source", States::busy, 0, 2, (x, a) -> x.setValue(0, a, 3, 0), Due.MISSING, Due.MISSING);
        range("setValue: field", States::busy, 0, 5, (x, a) -> x.setValue(0, 2, a, some(a)), Due.MISSING, Due.MISSING);
        range("clearValue: source", States::busy, 0, 2, (x, a) -> setAndClear(x, 0, a, 3), 1, 1);
        range("clearValue: field", States::busy, 0, 5, (x, a) -> setAndClear(x, 0, 0, a), 1, 1);
        range("value: field", States::busy, 0, 7, (x, a) -> x.value(0, a), Due.MISSING, 100);
        range("sourceOf: field", () -> {
            MediaCatalog x = States.busy();
            x.setValue(0, 2, 0, 1);
            x.setValue(0, 1, 4, 1);
            return x;
        }, 0, 4, (x, a) -> x.sourceOf(0, a), 2, 1);
    }

    private static void values() {
        for (int field = 0; field <= 5; field++) {
            int of = field;
            for (int source = 0; source <= 2; source++) {
                int by = source;
                range("setValue: value of field " + field + " by " + source, States::busy, LEAST[field],
                        GREATEST[field], (x, a) -> x.setValue(7, by, of, a), earlier(by, of), earlier(by, of));
            }
            int least = LEAST[field];
            int greatest = GREATEST[field];
            range("setValue: kept value of field " + field, () -> Due.catalogOf(1), least, greatest, (x, a) -> {
                int answer = x.setValue(0, 1, of, a);
                return answer == Due.MISSING ? x.value(0, of) : answer;
            }, least, greatest);
        }
    }

    /** What file 7 of the busy catalog has. */
    private static int earlier(int source, int field) {
        if (field == 1 && source == 1) {
            return 1;
        }
        if (field == 2 && source == 2) {
            return 1997;
        }
        return field == 5 && source == 1 ? 128 : Due.MISSING;
    }

    /** The source among the other two that has the lesser or greater number. */
    private static int other(int source, boolean greater) {
        if (greater) {
            return source == 2 ? 1 : 2;
        }
        return source == 0 ? 1 : 0;
    }

    private static void order() {
        range("setOrder: first", States::busy, 0, 2,
                (x, a) -> x.setOrder(a, other(a, false), other(a, true)), 12, 12);
        range("setOrder: second", States::busy, 0, 2,
                (x, a) -> x.setOrder(other(a, false), a, other(a, true)), 12, 12);
        range("setOrder: third", States::busy, 0, 2,
                (x, a) -> x.setOrder(other(a, false), other(a, true), a), 12, 12);
    }

    private static void duplicates() {
        range("keeperOf: file", States::full, 0, 39, (x, a) -> x.keeperOf(a), 0, 38);
        range("groupSize: file", States::full, 0, 39, (x, a) -> x.groupSize(a), 2, 2);
        range("merge: file", States::full, 0, 39, (x, a) -> x.merge(a), 1, 1);
    }

    private static void stacks() {
        range("stack: first", States::files, 0, 39, (x, a) -> x.stack(a, 20), 0, 0);
        range("stack: second", States::files, 0, 39, (x, a) -> x.stack(20, a), 0, 0);
        range("putInto: stack", States::pairs, 0, 9, (x, a) -> x.putInto(a, 30, 0), 3, 3);
        range("putInto: file", () -> {
            MediaCatalog x = States.files();
            x.stack(20, 21);
            return x;
        }, 0, 39, (x, a) -> x.putInto(0, a, 0), 3, 3);
        range("putInto: place", States::pairs, 0, 2, (x, a) -> x.putInto(9, 30, a), 3, 3);
        range("putInto: place among three", States::trio, 0, 3, (x, a) -> x.putInto(0, 30, a), 4, 4);
        range("takeOut: file", States::trio, 0, 39, (x, a) -> x.takeOut(a), 2, 2);
        range("chooseCover: stack", States::pairs, 0, 9, (x, a) -> x.chooseCover(a, -1), 0, 18);
        range("chooseCover: file", States::trio, -1, 39, (x, a) -> x.chooseCover(0, a), 0, 39);
        range("collapse: stack", States::pairs, 0, 9, (x, a) -> x.collapse(a, 1), 0, 0);
        range("collapse: on", States::pairs, 0, 1, (x, a) -> x.collapse(9, a), 0, 0);
        range("stackOf: file", States::trio, 0, 39, (x, a) -> x.stackOf(a), 0, 0);
        range("coverOf: stack", States::pairs, 0, 9, (x, a) -> x.coverOf(a), 0, 18);
        range("stackAt: stack", States::pairs, 0, 9, (x, a) -> x.stackAt(a, 1), 1, 19);
        fromZero("stackAt: place", States::trio, (x, a) -> x.stackAt(0, a), 0);
    }

    private static void rules() {
        range("type: character", States::busy, 33, 126, (x, a) -> x.type(a), 5, 5);
        for (int beyond = 128; beyond <= 65536; beyond *= 2) {
            invalid("type: s and", States::busy, (x, a) -> x.type(a), 's' + beyond);
        }
        range("satisfies: file", States::full, 0, 39, (x, a) -> x.satisfies(a), 1, 1);
    }

    private static void albums() {
        range("removeAlbum: album", States::albums, 0, 7, (x, a) -> x.removeAlbum(a), 7, 7);
        range("changeRule: album", States::albums, 0, 7, (x, a) -> x.changeRule(a), 40, 40);
        range("albumSize: album", States::albums, 0, 7, (x, a) -> x.albumSize(a), 40, 40);
        range("isIn: album", States::albums, 0, 7, (x, a) -> x.isIn(a, 39), 1, 1);
        range("isIn: file", States::albums, 0, 39, (x, a) -> x.isIn(7, a), 1, 1);
        range("turnover: album", States::albums, 0, 7, (x, a) -> x.turnover(a, 1), 40, 40);
        range("turnover: what", States::albums, 0, 1, (x, a) -> x.turnover(7, a), 0, 40);
        range("count: what", States::full, 0, 4, (x, a) -> x.count(a), 10, 1180);
    }

    private static void views() {
        range("sortBy: album", States::albums, 0, 7, (x, a) -> x.sortBy(a, 4, 0), 11, 11);
        range("sortBy: field", States::albums, 0, 4, (x, a) -> x.sortBy(7, a, 0), 11, 11);
        range("sortBy: down", States::albums, 0, 1, (x, a) -> x.sortBy(7, 4, a), 11, 11);
        range("viewSize: album", States::albums, 0, 7, (x, a) -> x.viewSize(a), 40, 40);
        range("viewAt: album", States::albums, 0, 7, (x, a) -> x.viewAt(a, 39), 39, 39);
        fromZero("viewAt: place", States::albums, (x, a) -> x.viewAt(7, a), 0);
    }

    private static void journal() {
        range("journalAt: what", States::albums, 0, 2, (x, a) -> x.journalAt(23, a), 7, 1);
        for (int property = 0; property <= 2; property++) {
            int what = property;
            int[] due = {7, 39, 1};
            fromZero("journalAt: index", States::albums, (x, a) -> x.journalAt(a, what), due[what]);
        }
    }

    private static void noSuchFile() {
        Call[] calls = {(x, a) -> x.remove(a), (x, a) -> x.setDigest(a, 5), (x, a) -> x.setValue(a, 0, 1, 1),
            (x, a) -> x.clearValue(a, 0, 1), (x, a) -> x.value(a, 1), (x, a) -> x.value(a, 5),
            (x, a) -> x.value(a, 6), (x, a) -> x.value(a, 7), (x, a) -> x.sourceOf(a, 1), (x, a) -> x.keeperOf(a),
            (x, a) -> x.groupSize(a), (x, a) -> x.merge(a), (x, a) -> x.stack(a, 30), (x, a) -> x.stack(30, a),
            (x, a) -> x.putInto(0, a, 0), (x, a) -> x.takeOut(a), (x, a) -> x.chooseCover(0, a),
            (x, a) -> x.stackOf(a), (x, a) -> x.satisfies(a), (x, a) -> x.isIn(0, a)};
        for (int i = 0; i < calls.length; i++) {
            invalid("removed file, call " + i, States::holes, calls[i], 38);
            invalid("file that never was, call " + i, States::busy, calls[i], 12);
        }
    }

    private static void noSuchStack() {
        Call[] calls = {(x, a) -> x.putInto(a, 30, 0), (x, a) -> x.chooseCover(a, 6), (x, a) -> x.chooseCover(a, -1),
            (x, a) -> x.collapse(a, 1), (x, a) -> x.collapse(a, 0), (x, a) -> x.coverOf(a), (x, a) -> x.stackAt(a, 0)};
        for (int i = 0; i < calls.length; i++) {
            invalid("removed stack, call " + i, States::holes, calls[i], 3);
            invalid("stack that never was, call " + i, States::busy, calls[i], 3);
        }
    }

    private static void noSuchAlbum() {
        Call[] calls = {(x, a) -> x.removeAlbum(a), (x, a) -> x.changeRule(a), (x, a) -> x.albumSize(a),
            (x, a) -> x.isIn(a, 0), (x, a) -> x.sortBy(a, 0, 0), (x, a) -> x.viewSize(a), (x, a) -> x.viewAt(a, 0),
            (x, a) -> x.turnover(a, 0), (x, a) -> x.turnover(a, 1)};
        for (int i = 0; i < calls.length; i++) {
            invalid("removed album, call " + i, States::holes, calls[i], 5);
            invalid("album that never was, call " + i, States::busy, calls[i], 4);
        }
    }

    /** A new object has no file 0, no stack 0 and no album 0. */
    private static void nothingThereYet() {
        Call[] calls = {(x, a) -> x.remove(a), (x, a) -> x.setDigest(a, 0), (x, a) -> x.setValue(a, 0, 0, 0),
            (x, a) -> x.clearValue(a, 0, 0), (x, a) -> x.value(a, 0), (x, a) -> x.sourceOf(a, 0),
            (x, a) -> x.keeperOf(a), (x, a) -> x.groupSize(a), (x, a) -> x.merge(a), (x, a) -> x.stack(a, 1),
            (x, a) -> x.putInto(a, 0, 0), (x, a) -> x.takeOut(a), (x, a) -> x.chooseCover(a, -1),
            (x, a) -> x.collapse(a, 0), (x, a) -> x.stackOf(a), (x, a) -> x.coverOf(a), (x, a) -> x.stackAt(a, 0),
            (x, a) -> x.satisfies(a), (x, a) -> x.removeAlbum(a), (x, a) -> x.changeRule(a),
            (x, a) -> x.albumSize(a), (x, a) -> x.isIn(a, 0), (x, a) -> x.sortBy(a, 1, 1), (x, a) -> x.viewSize(a),
            (x, a) -> x.viewAt(a, 0), (x, a) -> x.turnover(a, 0)};
        for (int i = 0; i < calls.length; i++) {
            invalid("new object, call " + i, MediaCatalog::new, calls[i], 0);
        }
    }
}
