/** Promises 1 to 10: files and metadata. */
final class FilesTest {
    private static final int[][] ORDERS = {{0, 1, 2}, {0, 2, 1}, {1, 0, 2}, {1, 2, 0}, {2, 0, 1}, {2, 1, 0}};

    private FilesTest() {
    }

    public static void main(String[] args) {
        newObject();
        constants();
        add();
        remove();
        setDigest();
        setValueRanges();
        setValueAnswers();
        setValueArguments();
        clearValue();
        valueAndSource();
        tags();
        valueArguments();
        setOrder();
        everyOrder();
        tagsInEveryOrder();
        newFileHasNoValues();
        Due.end();
    }

    private static void newObject() {
        MediaCatalog x = new MediaCatalog();
        Due.is("new: fileCount", x.fileCount(), 0);
        for (int what = 0; what <= 4; what++) {
            Due.is("new: count " + what, x.count(what), 0);
        }
        Due.is("new: journalSize", x.journalSize(), 0);
        Due.is("new: wasted", x.wasted(), 0);
        Due.is("new: clearRule", x.clearRule(), 0);
        Due.is("new: fault", x.fault(), 0);
        Due.is("new: no file", x.value(0, 7), Due.INVALID);
        Due.is("new: no stack", x.coverOf(0), Due.INVALID);
        Due.is("new: no album", x.albumSize(0), Due.INVALID);
        Due.is("new: order", x.setOrder(0, 1, 2), 12);
        MediaCatalog other = new MediaCatalog();
        other.add(1, 1);
        Due.is("new: two objects share nothing", x.fileCount(), 0);
    }

    private static void constants() {
        Due.is("INVALID_ARGUMENT", MediaCatalog.INVALID_ARGUMENT, -1);
        Due.is("NOT_POSSIBLE", MediaCatalog.NOT_POSSIBLE, -2);
        Due.is("LIMIT_REACHED", MediaCatalog.LIMIT_REACHED, -3);
        Due.is("NOT_FOUND", MediaCatalog.NOT_FOUND, -4);
    }

    private static void add() {
        MediaCatalog x = new MediaCatalog();
        Due.is("add: digest too small", x.add(-1, 1), Due.INVALID);
        Due.is("add: digest too great", x.add(10000, 1), Due.INVALID);
        Due.is("add: size too small", x.add(0, 0), Due.INVALID);
        Due.is("add: size too great", x.add(0, 100001), Due.INVALID);
        Due.is("add: extreme arguments", x.add(Integer.MIN_VALUE, Integer.MAX_VALUE), Due.INVALID);
        Due.is("add: an error adds nothing", x.fileCount(), 0);
        Due.is("add: least", x.add(0, 1), 0);
        Due.is("add: greatest", x.add(9999, 100000), 1);
        Due.is("add: digest kept", x.value(1, 6), 9999);
        Due.is("add: size kept", x.value(1, 7), 100000);
        for (int file = 2; file < 40; file++) {
            Due.is("add: next number", x.add(file, file), file);
        }
        Due.is("add: 41st", x.add(1, 1), Due.LIMIT);
        Due.is("add: wrong and full", x.add(1, 0), Due.INVALID);
        Due.is("add: full", x.fileCount(), 40);
        Due.is("add: the last one", x.value(39, 7), 39);
        Due.is("setValue: of the last one", x.setValue(39, 2, 5, 1023), Due.MISSING);
        Due.is("value: of the last one", x.value(39, 5), 1023);
        x.remove(17);
        x.remove(3);
        Due.is("add: lowest free", x.add(1, 1), 3);
        Due.is("add: next free", x.add(1, 1), 17);
        Due.is("add: full again", x.add(1, 1), Due.LIMIT);
    }

    private static void remove() {
        MediaCatalog x = Due.catalogOf(5);
        Due.is("remove: no such file", x.remove(5), Due.INVALID);
        Due.is("remove: negative", x.remove(-1), Due.INVALID);
        Due.is("remove: beyond", x.remove(40), Due.INVALID);
        Due.is("remove: far beyond", x.remove(64), Due.INVALID);
        Due.is("remove: greatest int", x.remove(Integer.MAX_VALUE), Due.INVALID);
        Due.is("remove: one", x.remove(2), 4);
        Due.is("remove: twice", x.remove(2), Due.INVALID);
        Due.is("remove: is away", x.value(2, 7), Due.INVALID);
        Due.is("remove: others stay", x.value(3, 7), 13);
        x.stack(0, 1);
        x.putInto(0, 3, 1);
        x.chooseCover(0, 3);
        Due.is("remove: out of a stack", x.remove(3), 3);
        Due.is("remove: stack order", x.stackAt(0, 1), 1);
        Due.is("remove: chosen cover is away", x.coverOf(0), 0);
        Due.is("remove: last but one of a stack", x.remove(0), 2);
        Due.is("remove: stack is away", x.coverOf(0), Due.INVALID);
        Due.is("remove: stack count", x.count(0), 0);
        Due.is("remove: the last belongs to none", x.stackOf(1), Due.MISSING);
        Due.is("remove: number used again, in no stack", x.add(7, 7), 0);
        Due.is("remove: new file in no stack", x.stackOf(0), Due.MISSING);
    }

    private static void setDigest() {
        MediaCatalog x = Due.catalogOf(2);
        Due.is("setDigest: previous", x.setDigest(0, 101), 100);
        Due.is("setDigest: kept", x.value(0, 6), 101);
        Due.is("setDigest: group", x.groupSize(0), 2);
        Due.is("setDigest: least", x.setDigest(0, 0), 101);
        Due.is("setDigest: greatest", x.setDigest(0, 9999), 0);
        Due.is("setDigest: too small", x.setDigest(0, -1), Due.INVALID);
        Due.is("setDigest: too great", x.setDigest(0, 10000), Due.INVALID);
        Due.is("setDigest: no file", x.setDigest(2, 1), Due.INVALID);
        Due.is("setDigest: an error changes nothing", x.value(0, 6), 9999);
    }

    private static void setValueRanges() {
        int[] least = {0, 0, 1900, 0, 0, 0};
        int[] greatest = {2, 5, 2100, 20, 9999, 1023};
        for (int field = 0; field <= 5; field++) {
            for (int source = 0; source <= 2; source++) {
                MediaCatalog x = Due.catalogOf(1);
                String what = "setValue: field " + field + ", source " + source;
                Due.is(what + ", below", x.setValue(0, source, field, least[field] - 1), Due.INVALID);
                Due.is(what + ", above", x.setValue(0, source, field, greatest[field] + 1), Due.INVALID);
                Due.is(what + ", least", x.setValue(0, source, field, least[field]), Due.MISSING);
                Due.is(what + ", greatest", x.setValue(0, source, field, greatest[field]), least[field]);
                Due.is(what + ", value", x.value(0, field), greatest[field]);
            }
        }
    }

    private static void setValueAnswers() {
        MediaCatalog x = Due.catalogOf(2);
        Due.is("setValue: none before", x.setValue(0, 1, 1, 3), Due.MISSING);
        Due.is("setValue: set nevertheless", x.value(0, 1), 3);
        Due.is("setValue: other source", x.setValue(0, 2, 1, 4), Due.MISSING);
        Due.is("setValue: other file", x.setValue(1, 1, 1, 5), Due.MISSING);
        Due.is("setValue: other field", x.setValue(0, 1, 0, 1), Due.MISSING);
        Due.is("setValue: previous of this source", x.setValue(0, 2, 1, 5), 4);
        Due.is("setValue: previous of the first source", x.setValue(0, 1, 1, 0), 3);
        Due.is("setValue: previous 0", x.setValue(0, 1, 1, 2), 0);
        Due.is("setValue: no tags is a value", x.setValue(0, 0, 5, 0), Due.MISSING);
        Due.is("setValue: previous no tags", x.setValue(0, 0, 5, 9), 0);
    }

    private static void setValueArguments() {
        MediaCatalog x = Due.catalogOf(1);
        Due.is("setValue: no file", x.setValue(1, 0, 1, 1), Due.INVALID);
        Due.is("setValue: negative file", x.setValue(-1, 0, 1, 1), Due.INVALID);
        Due.is("setValue: source below", x.setValue(0, -1, 1, 1), Due.INVALID);
        Due.is("setValue: source above", x.setValue(0, 3, 1, 1), Due.INVALID);
        Due.is("setValue: field below", x.setValue(0, 0, -1, 1), Due.INVALID);
        Due.is("setValue: field above", x.setValue(0, 0, 6, 1), Due.INVALID);
        Due.is("setValue: extreme field", x.setValue(0, 0, Integer.MIN_VALUE, 1), Due.INVALID);
        Due.is("setValue: nothing was set", x.value(0, 1), Due.MISSING);
    }

    private static void clearValue() {
        MediaCatalog x = Due.catalogOf(1);
        Due.is("clearValue: none", x.clearValue(0, 0, 1), Due.MISSING);
        x.setValue(0, 0, 1, 0);
        x.setValue(0, 1, 1, 4);
        Due.is("clearValue: had 0", x.clearValue(0, 0, 1), 0);
        Due.is("clearValue: next source tells", x.value(0, 1), 4);
        Due.is("clearValue: twice", x.clearValue(0, 0, 1), Due.MISSING);
        Due.is("clearValue: had 4", x.clearValue(0, 1, 1), 4);
        Due.is("clearValue: nobody tells", x.value(0, 1), Due.MISSING);
        x.setValue(0, 2, 5, 0);
        Due.is("clearValue: tags", x.clearValue(0, 2, 5), 0);
        Due.is("clearValue: no file", x.clearValue(1, 0, 1), Due.INVALID);
        Due.is("clearValue: source below", x.clearValue(0, -1, 1), Due.INVALID);
        Due.is("clearValue: source above", x.clearValue(0, 3, 1), Due.INVALID);
        Due.is("clearValue: field below", x.clearValue(0, 0, -1), Due.INVALID);
        Due.is("clearValue: field above", x.clearValue(0, 0, 6), Due.INVALID);
    }

    private static void valueAndSource() {
        for (int field = 0; field <= 4; field++) {
            int low = field == 2 ? 1900 : 0;
            MediaCatalog x = Due.catalogOf(1);
            String what = "field " + field;
            Due.is(what + ": no value", x.value(0, field), Due.MISSING);
            Due.is(what + ": no source", x.sourceOf(0, field), Due.MISSING);
            x.setValue(0, 2, field, low + 2);
            Due.is(what + ": third source", x.sourceOf(0, field), 2);
            x.setValue(0, 1, field, low + 1);
            Due.is(what + ": second source", x.sourceOf(0, field), 1);
            x.setValue(0, 0, field, low);
            Due.is(what + ": first source", x.sourceOf(0, field), 0);
            Due.is(what + ": its value", x.value(0, field), low);
            x.setOrder(2, 0, 1);
            Due.is(what + ": source in another order", x.sourceOf(0, field), 2);
            Due.is(what + ": value in another order", x.value(0, field), low + 2);
        }
    }

    private static void tags() {
        MediaCatalog x = Due.catalogOf(1);
        Due.is("tags: none", x.value(0, 5), 0);
        x.setValue(0, 0, 5, 1);
        x.setValue(0, 1, 5, 512);
        x.setValue(0, 2, 5, 513);
        Due.is("tags: union", x.value(0, 5), 513);
        x.setValue(0, 2, 5, 6);
        Due.is("tags: union of three", x.value(0, 5), 519);
        x.clearValue(0, 0, 5);
        Due.is("tags: union of two", x.value(0, 5), 518);
    }

    private static void valueArguments() {
        MediaCatalog x = Due.catalogOf(1);
        Due.is("value: no file", x.value(1, 0), Due.INVALID);
        Due.is("value: negative file", x.value(-1, 0), Due.INVALID);
        Due.is("value: field below", x.value(0, -1), Due.INVALID);
        Due.is("value: field above", x.value(0, 8), Due.INVALID);
        Due.is("value: digest", x.value(0, 6), 100);
        Due.is("value: size", x.value(0, 7), 10);
        Due.is("sourceOf: no file", x.sourceOf(1, 0), Due.INVALID);
        Due.is("sourceOf: field below", x.sourceOf(0, -1), Due.INVALID);
        Due.is("sourceOf: tags", x.sourceOf(0, 5), Due.INVALID);
        Due.is("sourceOf: digest", x.sourceOf(0, 6), Due.INVALID);
    }

    private static void setOrder() {
        MediaCatalog x = Due.catalogOf(1);
        int previous = 12;
        int[][] orders = {{0, 2, 1}, {1, 0, 2}, {1, 2, 0}, {2, 0, 1}, {2, 1, 0}, {0, 1, 2}};
        for (int[] order : orders) {
            Due.is("setOrder: previous", x.setOrder(order[0], order[1], order[2]), previous);
            previous = 100 * order[0] + 10 * order[1] + order[2];
        }
        Due.is("setOrder: first twice", x.setOrder(1, 1, 2), Due.INVALID);
        Due.is("setOrder: second twice", x.setOrder(0, 1, 1), Due.INVALID);
        Due.is("setOrder: ends alike", x.setOrder(2, 1, 2), Due.INVALID);
        Due.is("setOrder: first out of range", x.setOrder(3, 1, 2), Due.INVALID);
        Due.is("setOrder: second out of range", x.setOrder(0, -1, 2), Due.INVALID);
        Due.is("setOrder: third out of range", x.setOrder(0, 1, 3), Due.INVALID);
        Due.is("setOrder: an error changes nothing", x.setOrder(2, 1, 0), 12);
        x.setValue(0, 0, 1, 1);
        x.setValue(0, 1, 1, 2);
        Due.is("setOrder: middle source", x.sourceOf(0, 1), 1);
    }

    private static void newFileHasNoValues() {
        MediaCatalog x = Due.catalogOf(2);
        for (int field = 0; field <= 5; field++) {
            for (int source = 0; source <= 2; source++) {
                x.setValue(0, source, field, field == 2 ? 1900 : 1);
            }
        }
        x.remove(0);
        x.add(5, 5);
        for (int field = 0; field <= 4; field++) {
            Due.is("add: no value " + field, x.value(0, field), Due.MISSING);
        }
        Due.is("add: no tags", x.value(0, 5), 0);
        for (int source = 0; source <= 2; source++) {
            Due.is("add: source has none", x.clearValue(0, source, 5), Due.MISSING);
        }
    }

    /** Each of the six orders with each set of sources that have a value. */
    private static void everyOrder() {
        for (int[] order : ORDERS) {
            for (int tellers = 0; tellers < 8; tellers++) {
                MediaCatalog x = Due.catalogOf(1);
                for (int source = 0; source <= 2; source++) {
                    if ((tellers >> source & 1) == 1) {
                        x.setValue(0, source, 2, 2000 + source);
                    }
                }
                x.setOrder(order[0], order[1], order[2]);
                int due = Due.MISSING;
                for (int rank = 2; rank >= 0; rank--) {
                    due = (tellers >> order[rank] & 1) == 1 ? order[rank] : due;
                }
                String what = "order " + order[0] + order[1] + order[2] + " of sources " + tellers;
                Due.is(what + ": source", x.sourceOf(0, 2), due);
                Due.is(what + ": value", x.value(0, 2), due == Due.MISSING ? due : 2000 + due);
                Due.is(what + ": another field", x.value(0, 3), Due.MISSING);
            }
        }
    }

    private static void tagsInEveryOrder() {
        MediaCatalog x = Due.catalogOf(1);
        x.setValue(0, 0, 5, 3);
        x.setValue(0, 1, 5, 0);
        x.setValue(0, 2, 5, 640);
        for (int[] order : ORDERS) {
            x.setOrder(order[0], order[1], order[2]);
            Due.is("tags: the union in any order", x.value(0, 5), 643);
        }
    }
}
