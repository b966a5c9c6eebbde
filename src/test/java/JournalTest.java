/** Promises 36 to 38: what joined and left albums. */
final class JournalTest {
    private JournalTest() {
    }

    public static void main(String[] args) {
        oneCallOneFile();
        orderInOneCall();
        onlyTheOutcomeCounts();
        removedWithItsStack();
        errorsMakeNoEntries();
        latestEntries();
        oneCallWithManyEntries();
        removedAlbum();
        journalErrors();
        turnover();
        turnoverErrors();
        Due.end();
    }

    private static void entry(MediaCatalog x, int index, int album, int file, int joined) {
        Due.is("entry " + index + ": album", x.journalAt(index, 0), album);
        Due.is("entry " + index + ": file", x.journalAt(index, 1), file);
        Due.is("entry " + index + ": joined", x.journalAt(index, 2), joined);
    }

    private static void oneCallOneFile() {
        MediaCatalog x = Due.catalogOf(2);
        Due.album(x, "r=5");
        Due.is("journalSize: none", x.journalSize(), 0);
        x.setValue(1, 0, 1, 5);
        Due.is("journalSize: one", x.journalSize(), 1);
        entry(x, 0, 0, 1, 1);
        x.setValue(1, 0, 1, 4);
        Due.is("journalSize: two", x.journalSize(), 2);
        entry(x, 0, 0, 1, 0);
        entry(x, 1, 0, 1, 1);
        x.setValue(1, 0, 1, 5);
        x.remove(1);
        Due.is("journalSize: left by removal", x.journalSize(), 4);
        entry(x, 0, 0, 1, 0);
    }

    private static void orderInOneCall() {
        MediaCatalog x = Due.catalogOf(3);
        Due.album(x, "r=1");
        Due.album(x, "!a0");
        Due.is("journalSize: made with files", x.journalSize(), 3);
        entry(x, 0, 1, 2, 1);
        entry(x, 2, 1, 0, 1);
        x.setValue(0, 1, 1, 1);
        x.setValue(2, 1, 1, 1);
        x.setValue(1, 0, 1, 1);
        x.setValue(1, 1, 1, 3);
        int before = x.journalSize();
        x.setOrder(1, 0, 2);
        Due.is("journalSize: one call", x.journalSize() - before, 2);
        entry(x, 0, 1, 1, 1);
        entry(x, 1, 0, 1, 0);
        x.setDigest(1, 100);
        Due.is("journalSize: nothing joined or left", x.journalSize() - before, 2);
        Due.rule(x, "!r=1");
        x.changeRule(0);
        entry(x, 5, 0, 0, 0);
        entry(x, 4, 0, 1, 1);
        entry(x, 3, 0, 2, 0);
        entry(x, 2, 1, 0, 1);
        entry(x, 1, 1, 1, 0);
        entry(x, 0, 1, 2, 1);
    }

    private static void onlyTheOutcomeCounts() {
        MediaCatalog x = new MediaCatalog();
        for (int file = 0; file < 3; file++) {
            x.add(5, 5);
        }
        Due.album(x, "b");
        x.merge(0);
        Due.is("merge: the keeper stays", x.journalSize(), 1);
        x.setValue(0, 0, 1, 2);
        x.clearRule();
        Due.typed(x, "b|r?");
        x.changeRule(0);
        Due.is("changeRule: the same files", x.journalSize(), 1);
    }

    private static void latestEntries() {
        MediaCatalog x = Due.catalogOf(40);
        Due.album(x, "r=5");
        for (int file = 0; file < 30; file++) {
            x.setValue(file, 0, 1, 5);
            Due.is("journalSize", x.journalSize(), Math.min(file + 1, 24));
            entry(x, 0, 0, file, 1);
        }
        for (int index = 0; index < 24; index++) {
            entry(x, index, 0, 29 - index, 1);
        }
        Due.is("journalAt: the 25th latest", x.journalAt(24, 1), Due.MISSING);
    }

    private static void oneCallWithManyEntries() {
        MediaCatalog x = Due.catalogOf(40);
        Due.album(x, "b");
        Due.is("journalSize: 24 of 40", x.journalSize(), 24);
        entry(x, 0, 0, 39, 1);
        entry(x, 23, 0, 16, 1);
        Due.is("turnover: all 40", x.turnover(0, 1), 40);
    }

    private static void removedAlbum() {
        MediaCatalog x = Due.catalogOf(2);
        Due.album(x, "b");
        x.removeAlbum(0);
        Due.is("removeAlbum: entries stay", x.journalSize(), 2);
        entry(x, 0, 0, 1, 1);
        x.makeAlbum();
        Due.is("makeAlbum: entries again", x.journalSize(), 4);
        entry(x, 0, 0, 1, 1);
        entry(x, 1, 0, 0, 1);
    }

    private static void journalErrors() {
        MediaCatalog x = Due.catalogOf(2);
        Due.is("journalAt: empty", x.journalAt(0, 0), Due.MISSING);
        Due.is("journalAt: empty, what above", x.journalAt(0, 3), Due.INVALID);
        Due.album(x, "b");
        Due.is("journalAt: negative", x.journalAt(-1, 0), Due.INVALID);
        Due.is("journalAt: what below", x.journalAt(0, -1), Due.INVALID);
        Due.is("journalAt: what above", x.journalAt(0, 3), Due.INVALID);
        Due.is("journalAt: last one", x.journalAt(1, 1), 0);
        Due.is("journalAt: beyond", x.journalAt(2, 1), Due.MISSING);
        Due.is("journalAt: far beyond", x.journalAt(Integer.MAX_VALUE, 1), Due.MISSING);
        Due.is("journalAt: far beyond, what above", x.journalAt(Integer.MAX_VALUE, 3), Due.INVALID);
        Due.is("journalAt: least int", x.journalAt(Integer.MIN_VALUE, 0), Due.INVALID);
    }

    private static void turnover() {
        MediaCatalog x = Due.catalogOf(3);
        x.setValue(0, 0, 1, 5);
        x.setValue(1, 0, 1, 5);
        Due.album(x, "r=5");
        Due.is("turnover: had at once", x.turnover(0, 1), 2);
        Due.is("turnover: none left", x.turnover(0, 0), 0);
        for (int time = 0; time < 20; time++) {
            x.setValue(2, 0, 1, 5);
            x.setValue(2, 0, 1, 4);
        }
        Due.is("turnover: joined", x.turnover(0, 1), 22);
        Due.is("turnover: left", x.turnover(0, 0), 20);
        Due.rule(x, "r=4");
        x.changeRule(0);
        Due.is("turnover: joined by a new rule", x.turnover(0, 1), 23);
        Due.is("turnover: left by a new rule", x.turnover(0, 0), 22);
        x.remove(2);
        Due.is("turnover: left by removal", x.turnover(0, 0), 23);
        x.removeAlbum(0);
        Due.album(x, "r=5");
        Due.is("turnover: a new album, joined", x.turnover(0, 1), 2);
        Due.is("turnover: a new album, left", x.turnover(0, 0), 0);
    }

    private static void turnoverErrors() {
        MediaCatalog x = Due.catalogOf(1);
        Due.album(x, "b");
        Due.is("turnover: what below", x.turnover(0, -1), Due.INVALID);
        Due.is("turnover: what above", x.turnover(0, 2), Due.INVALID);
        Due.is("turnover: no album", x.turnover(1, 1), Due.INVALID);
        Due.is("turnover: album beyond", x.turnover(8, 1), Due.INVALID);
        Due.is("turnover: negative album", x.turnover(-1, 1), Due.INVALID);
    }

    /** The file that is left over leaves the album of stacked files, too. */
    private static void removedWithItsStack() {
        MediaCatalog x = Due.catalogOf(5);
        x.stack(3, 1);
        Due.album(x, "s");
        Due.album(x, "!s");
        int before = x.journalSize();
        x.remove(3);
        Due.is("remove: of a stack of two, entries", x.journalSize() - before, 3);
        entry(x, 2, 0, 1, 0);
        entry(x, 1, 0, 3, 0);
        entry(x, 0, 1, 1, 1);
        x.removeAlbum(0);
        Due.is("removeAlbum: makes none", x.journalSize() - before, 3);
        entry(x, 2, 0, 1, 0);
        x.add(1, 1);
        Due.is("add: one entry", x.journalSize() - before, 4);
        entry(x, 0, 1, 3, 1);
    }

    private static void errorsMakeNoEntries() {
        MediaCatalog x = Due.catalogOf(2);
        Due.album(x, "!r?");
        int[] answers = {x.setValue(0, 0, 1, 6), x.clearValue(0, 0, 1), x.remove(2), x.stack(0, 0), x.changeRule(1),
            x.add(-1, 1)};
        int[] due = {Due.INVALID, Due.MISSING, Due.INVALID, Due.INVALID, Due.INVALID, Due.INVALID};
        for (int i = 0; i < due.length; i++) {
            Due.is("refused " + i, answers[i], due[i]);
        }
        Due.is("refused: no entries", x.journalSize(), 2);
        Due.is("setValue: had none, but is no error", x.setValue(0, 0, 1, 0), Due.MISSING);
        Due.is("setValue: makes an entry", x.journalSize(), 3);
        entry(x, 0, 0, 0, 0);
    }
}
