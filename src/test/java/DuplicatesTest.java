/** Promises 11 to 14: groups of duplicates and their keepers. */
final class DuplicatesTest {
    private DuplicatesTest() {
    }

    public static void main(String[] args) {
        keeperByNumber();
        keeperByRating();
        keeperByYear();
        keeperFollowsOrder();
        groupSize();
        wasted();
        mergeAnswers();
        mergeValues();
        mergeEachField();
        mergeBySources();
        mergeTags();
        mergeStacks();
        mergeAlbums();
        Due.end();
    }

    private static MediaCatalog group(int files) {
        MediaCatalog x = new MediaCatalog();
        for (int file = 0; file < files; file++) {
            x.add(7, 1 + file);
        }
        return x;
    }

    private static void keeperByNumber() {
        MediaCatalog x = group(3);
        Due.is("keeperOf: lowest number", x.keeperOf(2), 0);
        Due.is("keeperOf: itself", x.keeperOf(0), 0);
        x.setDigest(1, 8);
        Due.is("keeperOf: alone", x.keeperOf(1), 1);
        Due.is("keeperOf: no file", x.keeperOf(3), Due.INVALID);
        Due.is("keeperOf: negative", x.keeperOf(-1), Due.INVALID);
        Due.is("keeperOf: beyond", x.keeperOf(40), Due.INVALID);
        x.remove(0);
        Due.is("keeperOf: after a removal", x.keeperOf(2), 2);
    }

    private static void keeperByRating() {
        MediaCatalog x = group(3);
        x.setValue(1, 0, 1, 0);
        Due.is("keeperOf: rating 0 before none", x.keeperOf(0), 1);
        x.setValue(2, 0, 1, 1);
        Due.is("keeperOf: greater rating", x.keeperOf(0), 2);
        x.setValue(1, 0, 2, 1900);
        Due.is("keeperOf: rating before year", x.keeperOf(0), 2);
        x.setValue(1, 0, 1, 1);
        Due.is("keeperOf: alike in rating, lesser year", x.keeperOf(0), 1);
    }

    private static void keeperByYear() {
        MediaCatalog x = group(3);
        x.setValue(2, 0, 2, 2100);
        Due.is("keeperOf: any year before none", x.keeperOf(0), 2);
        x.setValue(1, 0, 2, 2100);
        Due.is("keeperOf: alike in year", x.keeperOf(2), 1);
        x.setValue(2, 0, 2, 2099);
        Due.is("keeperOf: lesser year", x.keeperOf(1), 2);
        x.clearValue(2, 0, 2);
        Due.is("keeperOf: year is away", x.keeperOf(2), 1);
    }

    private static void keeperFollowsOrder() {
        MediaCatalog x = group(2);
        x.setValue(0, 0, 1, 1);
        x.setValue(0, 1, 1, 5);
        x.setValue(1, 0, 1, 3);
        Due.is("keeperOf: by the first source", x.keeperOf(0), 1);
        x.setOrder(1, 0, 2);
        Due.is("keeperOf: by the other order", x.keeperOf(0), 0);
    }

    private static void groupSize() {
        MediaCatalog x = group(3);
        x.add(8, 1);
        Due.is("groupSize: three", x.groupSize(1), 3);
        Due.is("groupSize: one", x.groupSize(3), 1);
        Due.is("groupSize: no file", x.groupSize(4), Due.INVALID);
        Due.is("groupSize: negative", x.groupSize(-1), Due.INVALID);
        x.remove(0);
        Due.is("groupSize: a removed file counts no more", x.groupSize(1), 2);
        x.setDigest(3, 7);
        Due.is("groupSize: joined by digest", x.groupSize(3), 3);
    }

    private static void wasted() {
        MediaCatalog x = new MediaCatalog();
        x.add(1, 1000);
        x.add(1, 200);
        x.add(2, 30);
        x.add(2, 4);
        x.add(3, 50000);
        Due.is("wasted: two groups", x.wasted(), 204);
        x.setValue(1, 2, 1, 0);
        Due.is("wasted: another keeper", x.wasted(), 1004);
        x.remove(3);
        Due.is("wasted: one group", x.wasted(), 1000);
        x.setDigest(0, 4);
        Due.is("wasted: none", x.wasted(), 0);
        MediaCatalog full = new MediaCatalog();
        for (int file = 0; file < 40; file++) {
            full.add(0, 100000);
        }
        Due.is("wasted: most", full.wasted(), 3900000);
    }

    private static void mergeAnswers() {
        MediaCatalog x = group(4);
        x.add(8, 9);
        Due.is("merge: no file", x.merge(5), Due.INVALID);
        Due.is("merge: negative", x.merge(-1), Due.INVALID);
        Due.is("merge: alone", x.merge(4), Due.IMPOSSIBLE);
        x.setValue(2, 1, 1, 1);
        Due.is("merge: three are removed", x.merge(3), 3);
        Due.is("merge: two are left", x.fileCount(), 2);
        Due.is("merge: the keeper is left", x.value(2, 7), 3);
        Due.is("merge: the file itself may go", x.value(3, 7), Due.INVALID);
        Due.is("merge: the keeper is alone", x.groupSize(2), 1);
        Due.is("merge: twice", x.merge(2), Due.IMPOSSIBLE);
    }

    private static void mergeValues() {
        MediaCatalog x = group(4);
        x.setValue(2, 0, 1, 5);
        x.setValue(3, 0, 0, 2);
        x.setValue(0, 1, 0, 1);
        x.setValue(1, 1, 0, 0);
        x.setValue(1, 0, 4, 11);
        x.setValue(3, 0, 4, 33);
        x.setValue(2, 2, 3, 20);
        x.setValue(0, 2, 3, 10);
        x.setValue(0, 0, 1, 4);
        Due.is("merge: into the greatest rating", x.merge(0), 3);
        Due.is("merge: of the only one that has it", x.clearValue(2, 0, 0), 2);
        Due.is("merge: of the first one that has it", x.clearValue(2, 1, 0), 1);
        Due.is("merge: of the second file", x.clearValue(2, 0, 4), 11);
        Due.is("merge: the keeper's own value stays", x.clearValue(2, 2, 3), 20);
        Due.is("merge: its rating stays", x.clearValue(2, 0, 1), 5);
        Due.is("merge: nobody had this", x.clearValue(2, 2, 2), Due.MISSING);
        Due.is("merge: not from another source", x.clearValue(2, 1, 3), Due.MISSING);
        Due.is("merge: size stays", x.value(2, 7), 3);
    }

    private static void mergeTags() {
        MediaCatalog x = group(3);
        x.setValue(0, 0, 5, 1);
        x.setValue(1, 0, 5, 6);
        x.setValue(2, 0, 5, 4);
        x.setValue(2, 1, 5, 0);
        Due.is("merge: three", x.merge(0), 2);
        Due.is("merge: union of a source", x.clearValue(0, 0, 5), 7);
        Due.is("merge: no tags is a value too", x.clearValue(0, 1, 5), 0);
        Due.is("merge: a source without tags", x.clearValue(0, 2, 5), Due.MISSING);
        x = group(2);
        x.setValue(0, 0, 5, 8);
        x.merge(1);
        Due.is("merge: the keeper's own tags stay", x.value(0, 5), 8);
    }

    private static void mergeStacks() {
        MediaCatalog x = group(3);
        x.add(8, 1);
        x.add(9, 1);
        x.stack(3, 1);
        x.putInto(0, 4, 2);
        x.stack(2, 0);
        x.chooseCover(0, 1);
        Due.is("merge: out of stacks", x.merge(0), 2);
        Due.is("merge: one stack is left", x.count(0), 1);
        Due.is("merge: first of it", x.stackAt(0, 0), 3);
        Due.is("merge: second of it", x.stackAt(0, 1), 4);
        Due.is("merge: third of it", x.stackAt(0, 2), Due.MISSING);
        Due.is("merge: cover no more chosen", x.coverOf(0), 3);
        Due.is("merge: the keeper belongs to none", x.stackOf(0), Due.MISSING);
    }

    private static void mergeAlbums() {
        MediaCatalog x = group(3);
        Due.album(x, "u");
        Due.album(x, "t1");
        x.setValue(2, 0, 5, 2);
        int before = x.journalSize();
        x.merge(0);
        Due.is("merge: no duplicates are left", x.albumSize(0), 0);
        Due.is("merge: the keeper got the tag", x.isIn(1, 0), 1);
        Due.is("merge: entries", x.journalSize() - before, 5);
        Due.is("merge: last entry, album", x.journalAt(0, 0), 1);
        Due.is("merge: last entry, file", x.journalAt(0, 1), 2);
        Due.is("merge: last entry, left", x.journalAt(0, 2), 0);
        Due.is("merge: the one before, file", x.journalAt(1, 1), 0);
        Due.is("merge: the one before, joined", x.journalAt(1, 2), 1);
        Due.is("merge: first entry, album", x.journalAt(4, 0), 0);
        Due.is("merge: first entry, file", x.journalAt(4, 1), 0);
    }

    /** The group of the files 0 to 3, of which 1 is the keeper. */
    private static MediaCatalog keptByOne() {
        MediaCatalog x = group(4);
        x.setValue(1, 0, 1, 5);
        x.setValue(1, 1, 1, 5);
        x.setValue(1, 2, 1, 5);
        return x;
    }

    private static void mergeEachField() {
        int[] least = {0, 0, 1900, 0, 0};
        for (int field = 0; field <= 4; field++) {
            for (int source = 0; source <= 2 && field != 1; source++) {
                String what = "merge: field " + field + " of source " + source;
                MediaCatalog x = keptByOne();
                x.setValue(0, source, field, least[field]);
                x.setValue(2, source, field, least[field] + 1);
                x.merge(0);
                Due.is(what + ", of a lower number", x.clearValue(1, source, field), least[field]);
                x = keptByOne();
                x.setValue(2, source, field, least[field]);
                x.setValue(3, source, field, least[field] + 1);
                x.merge(1);
                Due.is(what + ", of a greater number", x.clearValue(1, source, field), least[field]);
                x = keptByOne();
                x.setValue(0, source, field, least[field] + 2);
                x.setValue(1, source, field, least[field]);
                x.setValue(2, source, field, least[field] + 1);
                x.merge(2);
                Due.is(what + ", its own", x.clearValue(1, source, field), least[field]);
                x = keptByOne();
                x.setValue(0, (source + 1) % 3, field, least[field]);
                x.merge(3);
                Due.is(what + ", only another source has one", x.clearValue(1, source, field), Due.MISSING);
            }
        }
    }

    /** What a source did not tell of the keeper may come before what made it the keeper. */
    private static void mergeBySources() {
        MediaCatalog x = group(2);
        x.setValue(0, 0, 1, 3);
        x.setValue(0, 2, 2, 2001);
        x.setValue(1, 1, 1, 4);
        Due.is("merge: the keeper before", x.keeperOf(0), 1);
        Due.is("merge: one goes", x.merge(0), 1);
        Due.is("merge: the first source tells now", x.value(1, 1), 3);
        Due.is("merge: the first source", x.sourceOf(1, 1), 0);
        Due.is("merge: the year came too", x.value(1, 2), 2001);
        Due.is("merge: by its source", x.sourceOf(1, 2), 2);
    }
}
