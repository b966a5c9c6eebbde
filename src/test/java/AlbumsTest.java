/** Promises 28 to 35 and 39: albums, their views, and the numbers about the catalog. */
final class AlbumsTest {
    private AlbumsTest() {
    }

    public static void main(String[] args) {
        makeAlbum();
        makeAlbumErrors();
        albumLimit();
        removeAlbum();
        changeRule();
        changeRuleErrors();
        albumSizeAndIsIn();
        albumsFollowEveryCall();
        albumsFollowAlbums();
        chainOfEight();
        viewTies();
        ruleIsKept();
        sortBy();
        viewOrders();
        viewFields();
        viewCollapsed();
        viewWithoutCover();
        viewErrors();
        count();
        Due.end();
    }

    private static void makeAlbum() {
        MediaCatalog x = Due.catalogOf(3);
        x.setValue(1, 0, 1, 3);
        Due.is("makeAlbum: first", Due.album(x, "r?"), 0);
        Due.is("makeAlbum: it has its file", x.isIn(0, 1), 1);
        Due.is("makeAlbum: and no other", x.albumSize(0), 1);
        Due.is("makeAlbum: the text stays", x.makeAlbum(), 1);
        Due.is("makeAlbum: names a lower one", Due.album(x, "!a0&!a1"), 2);
        Due.is("makeAlbum: the others", x.albumSize(2), 2);
        Due.is("count: albums", x.count(1), 3);
        MediaCatalog none = new MediaCatalog();
        Due.is("makeAlbum: no files", Due.album(none, "b"), 0);
        Due.is("albumSize: none", none.albumSize(0), 0);
        Due.is("viewSize: none", none.viewSize(0), 0);
    }

    private static void makeAlbumErrors() {
        MediaCatalog x = Due.catalogOf(1);
        Due.is("makeAlbum: empty text", x.makeAlbum(), Due.IMPOSSIBLE);
        Due.is("makeAlbum: a beginning only", Due.album(x, "b|"), Due.IMPOSSIBLE);
        Due.is("makeAlbum: a fault", Due.album(x, "b)"), Due.IMPOSSIBLE);
        Due.is("makeAlbum: names itself", Due.album(x, "a0"), Due.IMPOSSIBLE);
        Due.is("makeAlbum: names none", Due.album(x, "b|a9"), Due.IMPOSSIBLE);
        Due.is("makeAlbum: nothing was made", x.count(1), 0);
        Due.album(x, "b");
        Due.album(x, "b");
        x.removeAlbum(0);
        Due.is("makeAlbum: names a greater one", Due.album(x, "a1"), Due.IMPOSSIBLE);
        Due.is("makeAlbum: names one that was removed", Due.album(x, "a0"), Due.IMPOSSIBLE);
        Due.is("makeAlbum: lowest free", Due.album(x, "b"), 0);
        Due.is("makeAlbum: names the greater one, which is lower now", Due.album(x, "a1"), 2);
    }

    private static void albumLimit() {
        MediaCatalog x = Due.catalogOf(1);
        for (int album = 0; album < 8; album++) {
            Due.is("makeAlbum: next number", Due.album(x, "b"), album);
        }
        Due.is("makeAlbum: ninth", x.makeAlbum(), Due.LIMIT);
        Due.is("makeAlbum: ninth, names the eighth", Due.album(x, "a7"), Due.LIMIT);
        Due.is("makeAlbum: ninth, names none", Due.album(x, "a8"), Due.IMPOSSIBLE);
        Due.is("makeAlbum: ninth, no rule", Due.album(x, "b!"), Due.IMPOSSIBLE);
        Due.is("makeAlbum: eight are left", x.count(1), 8);
        x.removeAlbum(5);
        Due.is("makeAlbum: free again", Due.album(x, "a4"), 5);
    }

    private static void removeAlbum() {
        MediaCatalog x = Due.catalogOf(2);
        Due.album(x, "b");
        Due.album(x, "a0");
        Due.album(x, "b|!a1");
        int entries = x.journalSize();
        Due.is("removeAlbum: none", x.removeAlbum(3), Due.INVALID);
        Due.is("removeAlbum: beyond", x.removeAlbum(8), Due.INVALID);
        Due.is("removeAlbum: negative", x.removeAlbum(-1), Due.INVALID);
        Due.is("removeAlbum: named", x.removeAlbum(0), Due.IMPOSSIBLE);
        Due.is("removeAlbum: named behind others", x.removeAlbum(1), Due.IMPOSSIBLE);
        Due.is("removeAlbum: not named", x.removeAlbum(2), 2);
        Due.is("removeAlbum: named no more", x.removeAlbum(1), 1);
        Due.is("removeAlbum: twice", x.removeAlbum(1), Due.INVALID);
        Due.is("removeAlbum: no entries", x.journalSize(), entries);
        Due.is("removeAlbum: others stay", x.albumSize(0), 2);
        Due.rule(x, "a0");
        Due.is("removeAlbum: the text names it, but no album", x.removeAlbum(0), 0);
        x.add(9, 9);
        Due.is("removeAlbum: it follows nothing then", x.journalSize(), entries);
    }

    private static void changeRule() {
        MediaCatalog x = Due.catalogOf(4);
        x.setValue(0, 0, 1, 1);
        x.setValue(1, 0, 1, 2);
        Due.album(x, "r=1");
        Due.album(x, "!a0");
        Due.rule(x, "r?");
        Due.is("changeRule: files then", x.changeRule(0), 2);
        Due.is("changeRule: the others follow", x.albumSize(1), 2);
        Due.is("changeRule: one has joined", x.turnover(0, 1), 2);
        Due.is("changeRule: none has left", x.turnover(0, 0), 0);
        Due.is("changeRule: one has left the other", x.turnover(1, 0), 1);
        Due.is("changeRule: last entry", x.journalAt(0, 0), 1);
        Due.is("changeRule: the one before", x.journalAt(1, 0), 0);
        Due.rule(x, "b|a0");
        Due.is("changeRule: names a lower one", x.changeRule(1), 4);
        Due.rule(x, "k?");
        Due.is("changeRule: no files", x.changeRule(0), 0);
        x.setValue(3, 0, 0, 0);
        Due.is("changeRule: the new rule is kept", x.isIn(0, 3), 1);
    }

    private static void changeRuleErrors() {
        MediaCatalog x = Due.catalogOf(3);
        Due.album(x, "b");
        Due.album(x, "b");
        Due.album(x, "a0&a1");
        x.clearRule();
        Due.is("changeRule: empty text", x.changeRule(0), Due.IMPOSSIBLE);
        Due.is("changeRule: no album and no rule", x.changeRule(3), Due.INVALID);
        Due.rule(x, "!b");
        Due.is("changeRule: none", x.changeRule(3), Due.INVALID);
        Due.is("changeRule: beyond", x.changeRule(8), Due.INVALID);
        Due.is("changeRule: negative", x.changeRule(-1), Due.INVALID);
        Due.rule(x, "!b&a1");
        Due.is("changeRule: names itself", x.changeRule(1), Due.IMPOSSIBLE);
        Due.is("changeRule: names a greater one", x.changeRule(0), Due.IMPOSSIBLE);
        Due.is("changeRule: names a lower one", x.changeRule(2), 0);
        x.removeAlbum(0);
        Due.rule(x, "a0");
        Due.is("changeRule: names one that was removed", x.changeRule(1), Due.IMPOSSIBLE);
        Due.is("changeRule: an error changes nothing", x.albumSize(1), 3);
    }

    private static void albumSizeAndIsIn() {
        MediaCatalog x = Due.catalogOf(3);
        x.setValue(2, 0, 1, 3);
        Due.album(x, "r=3");
        Due.is("albumSize: one", x.albumSize(0), 1);
        Due.is("albumSize: no album", x.albumSize(1), Due.INVALID);
        Due.is("albumSize: beyond", x.albumSize(8), Due.INVALID);
        Due.is("albumSize: negative", x.albumSize(-1), Due.INVALID);
        Due.is("isIn: yes", x.isIn(0, 2), 1);
        Due.is("isIn: no", x.isIn(0, 1), 0);
        Due.is("isIn: no file", x.isIn(0, 3), Due.INVALID);
        Due.is("isIn: negative file", x.isIn(0, -1), Due.INVALID);
        Due.is("isIn: file beyond", x.isIn(0, 64), Due.INVALID);
        Due.is("isIn: no album", x.isIn(1, 2), Due.INVALID);
        Due.is("isIn: negative album", x.isIn(-1, 2), Due.INVALID);
        x.remove(2);
        Due.is("isIn: removed", x.isIn(0, 2), Due.INVALID);
        x.add(1, 1);
        Due.is("isIn: a new file with its number", x.isIn(0, 2), 0);
    }

    private static void size(MediaCatalog x, String call, int album, int due) {
        Due.is("after " + call + " album " + album + " has", x.albumSize(album), due);
    }

    private static void albumsFollowEveryCall() {
        MediaCatalog x = Due.catalogOf(3);
        String[] rules = {"b", "u", "s", "v", "r>2", "t3"};
        for (String rule : rules) {
            Due.album(x, rule);
        }
        x.add(101, 5);
        size(x, "add", 1, 2);
        size(x, "add", 0, 3);
        x.setDigest(2, 101);
        size(x, "setDigest", 1, 3);
        x.setValue(3, 1, 1, 5);
        size(x, "setValue", 4, 1);
        Due.is("after setValue the keeper changes", x.isIn(0, 3), 1);
        x.setValue(3, 0, 1, 0);
        size(x, "setValue of the first source", 4, 0);
        x.setOrder(1, 2, 0);
        size(x, "setOrder", 4, 1);
        x.setValue(0, 2, 5, 8);
        size(x, "setValue of tags", 5, 1);
        x.clearValue(0, 2, 5);
        size(x, "clearValue", 5, 0);
        x.stack(0, 1);
        size(x, "stack", 2, 2);
        size(x, "stack", 3, 1);
        x.putInto(0, 3, 2);
        size(x, "putInto", 2, 3);
        Due.is("after putInto the cover changes", x.isIn(3, 3), 1);
        x.chooseCover(0, 1);
        Due.is("after chooseCover", x.isIn(3, 1), 1);
        Due.is("after chooseCover the other", x.isIn(3, 3), 0);
        x.takeOut(1);
        size(x, "takeOut", 2, 2);
        Due.is("after takeOut", x.isIn(3, 3), 1);
        x.merge(1);
        size(x, "merge", 1, 0);
        size(x, "merge", 2, 2);
        Due.is("after merge the keeper is the cover", x.isIn(3, 3), 1);
        x.remove(3);
        size(x, "remove", 2, 0);
        size(x, "remove", 3, 0);
        size(x, "remove", 4, 0);
        size(x, "remove", 0, 1);
    }

    private static void albumsFollowAlbums() {
        MediaCatalog x = Due.catalogOf(3);
        Due.album(x, "r>2");
        Due.album(x, "!a0");
        Due.album(x, "a1&k?|a0");
        x.setValue(1, 0, 1, 4);
        size(x, "setValue", 0, 1);
        size(x, "setValue", 1, 2);
        size(x, "setValue", 2, 1);
        x.setValue(0, 0, 0, 0);
        size(x, "setValue of kind", 2, 2);
        x.remove(0);
        x.setValue(1, 0, 1, 2);
        size(x, "all", 0, 0);
        size(x, "all", 1, 2);
        size(x, "all", 2, 0);
    }

    private static void ruleIsKept() {
        MediaCatalog x = Due.catalogOf(1);
        Due.album(x, "t1&t2");
        Due.rule(x, "b");
        x.setValue(0, 0, 5, 2);
        Due.is("rule: the text is another one now", x.albumSize(0), 0);
        x.setValue(0, 0, 5, 6);
        Due.is("rule: kept", x.albumSize(0), 1);
    }

    private static void sortBy() {
        MediaCatalog x = Due.catalogOf(1);
        Due.album(x, "b");
        Due.is("sortBy: initially", x.sortBy(0, 4, 0), 11);
        Due.is("sortBy: previous", x.sortBy(0, 0, 1), 40);
        Due.is("sortBy: kind, descending", x.sortBy(0, 0, 0), 1);
        Due.is("sortBy: kind, ascending", x.sortBy(0, 2, 1), 0);
        Due.is("sortBy: field below", x.sortBy(0, -1, 1), Due.INVALID);
        Due.is("sortBy: field above", x.sortBy(0, 5, 1), Due.INVALID);
        Due.is("sortBy: down below", x.sortBy(0, 1, -1), Due.INVALID);
        Due.is("sortBy: down above", x.sortBy(0, 1, 2), Due.INVALID);
        Due.is("sortBy: no album", x.sortBy(1, 1, 1), Due.INVALID);
        Due.is("sortBy: negative album", x.sortBy(-1, 1, 1), Due.INVALID);
        x.changeRule(0);
        Due.is("sortBy: a new rule leaves it", x.sortBy(0, 3, 0), 21);
        x.removeAlbum(0);
        x.makeAlbum();
        Due.is("sortBy: initial in a new album", x.sortBy(0, 1, 1), 11);
    }

    private static void view(MediaCatalog x, String what, int album, int... due) {
        Due.is(what + ": viewSize", x.viewSize(album), due.length);
        for (int place = 0; place < due.length; place++) {
            Due.is(what + ": viewAt " + place, x.viewAt(album, place), due[place]);
        }
        Due.is(what + ": end", x.viewAt(album, due.length), Due.MISSING);
    }

    private static void viewOrders() {
        MediaCatalog x = Due.catalogOf(6);
        Due.album(x, "b");
        view(x, "no values", 0, 0, 1, 2, 3, 4, 5);
        x.setValue(1, 0, 1, 2);
        x.setValue(2, 0, 1, 0);
        x.setValue(4, 0, 1, 5);
        x.setValue(5, 0, 1, 2);
        view(x, "descending", 0, 4, 1, 5, 2, 0, 3);
        x.sortBy(0, 1, 0);
        view(x, "ascending", 0, 2, 1, 5, 4, 0, 3);
        x.setValue(3, 0, 1, 1);
        view(x, "a value more", 0, 2, 3, 1, 5, 4, 0);
        x.remove(1);
        view(x, "a file less", 0, 2, 3, 5, 4, 0);
    }

    private static void viewFields() {
        for (int field = 0; field <= 4; field++) {
            int low = field == 2 ? 1900 : 0;
            MediaCatalog x = Due.catalogOf(4);
            Due.album(x, "b");
            x.setValue(3, 0, field, low + 2);
            x.setValue(1, 0, field, low);
            x.setValue(2, 0, field, low + 1);
            x.sortBy(0, field, 1);
            view(x, "field " + field + " descending", 0, 3, 2, 1, 0);
            x.sortBy(0, field, 0);
            view(x, "field " + field + " ascending", 0, 1, 2, 3, 0);
        }
    }

    private static void viewCollapsed() {
        MediaCatalog x = Due.catalogOf(6);
        Due.album(x, "b");
        x.stack(4, 2);
        x.putInto(0, 0, 2);
        x.stack(5, 1);
        view(x, "expanded", 0, 0, 1, 2, 3, 4, 5);
        x.collapse(0, 1);
        view(x, "one collapsed", 0, 1, 3, 4, 5);
        Due.is("collapsed: albumSize stays", x.albumSize(0), 6);
        Due.is("collapsed: hidden, but in", x.isIn(0, 2), 1);
        x.collapse(1, 1);
        view(x, "both collapsed", 0, 3, 4, 5);
        x.chooseCover(0, 0);
        view(x, "another cover", 0, 0, 3, 5);
        x.setValue(1, 0, 1, 3);
        view(x, "cover by rating", 0, 1, 0, 3);
        x.collapse(0, 0);
        view(x, "one expanded", 0, 1, 0, 2, 3, 4);
        x.takeOut(5);
        view(x, "the other removed", 0, 1, 0, 2, 3, 4, 5);
    }

    private static void viewWithoutCover() {
        MediaCatalog x = Due.catalogOf(6);
        x.stack(5, 4);
        x.putInto(0, 3, 2);
        x.putInto(0, 2, 0);
        x.chooseCover(0, 5);
        x.collapse(0, 1);
        x.setValue(3, 0, 5, 1);
        x.setValue(4, 0, 5, 1);
        x.setValue(0, 0, 5, 1);
        Due.album(x, "t0");
        view(x, "first in the order of the stack", 0, 0, 4);
        x.chooseCover(0, 3);
        view(x, "the cover, though later in the order", 0, 0, 3);
        x.chooseCover(0, 5);
        x.takeOut(4);
        view(x, "the only one", 0, 0, 3, 4);
        x.clearValue(3, 0, 5);
        view(x, "none of the stack", 0, 0, 4);
    }

    private static void viewErrors() {
        MediaCatalog x = Due.catalogOf(2);
        Due.album(x, "b");
        Due.is("viewSize: no album", x.viewSize(1), Due.INVALID);
        Due.is("viewSize: negative", x.viewSize(-1), Due.INVALID);
        Due.is("viewSize: beyond", x.viewSize(8), Due.INVALID);
        Due.is("viewAt: no album", x.viewAt(1, 0), Due.INVALID);
        Due.is("viewAt: negative album", x.viewAt(-1, 0), Due.INVALID);
        Due.is("viewAt: negative place", x.viewAt(0, -1), Due.INVALID);
        Due.is("viewAt: beyond", x.viewAt(0, 2), Due.MISSING);
        Due.is("viewAt: far beyond", x.viewAt(0, Integer.MAX_VALUE), Due.MISSING);
        Due.is("viewAt: no album, beyond", x.viewAt(1, 5), Due.INVALID);
    }

    private static void count() {
        MediaCatalog x = new MediaCatalog();
        int[] digests = {1, 1, 1, 2, 2, 3, 4};
        for (int digest : digests) {
            x.add(digest, 100 + digest);
        }
        x.stack(0, 1);
        x.putInto(0, 2, 0);
        x.stack(5, 6);
        Due.album(x, "b");
        Due.is("count: stacks", x.count(0), 2);
        Due.is("count: albums", x.count(1), 1);
        Due.is("count: groups", x.count(2), 2);
        Due.is("count: stacked files", x.count(3), 5);
        Due.is("count: sizes", x.count(4), 714);
        Due.is("count: below", x.count(-1), Due.INVALID);
        Due.is("count: above", x.count(5), Due.INVALID);
        x.takeOut(5);
        x.remove(3);
        x.removeAlbum(0);
        Due.is("count: stacks then", x.count(0), 1);
        Due.is("count: albums then", x.count(1), 0);
        Due.is("count: groups then", x.count(2), 1);
        Due.is("count: stacked files then", x.count(3), 3);
        Due.is("count: sizes then", x.count(4), 612);
    }

    private static void chainOfEight() {
        MediaCatalog x = Due.catalogOf(1);
        Due.album(x, "r=5");
        for (int album = 1; album < 8; album++) {
            Due.is("chain: makeAlbum", Due.album(x, "!a" + (album - 1)), album);
        }
        int before = x.journalSize();
        x.setValue(0, 0, 1, 5);
        Due.is("chain: one call changes all", x.journalSize() - before, 8);
        for (int album = 0; album < 8; album++) {
            Due.is("chain: isIn " + album, x.isIn(album, 0), album % 2 == 0 ? 1 : 0);
            Due.is("chain: entry of " + album, x.journalAt(7 - album, 0), album);
            Due.is("chain: entry of " + album, x.journalAt(7 - album, 2), album % 2 == 0 ? 1 : 0);
            Due.is("chain: removeAlbum " + album, x.removeAlbum(album), album == 7 ? 7 : Due.IMPOSSIBLE);
        }
        Due.is("chain: removeAlbum 6, named no more", x.removeAlbum(6), 6);
    }

    /** Files that are alike, with and without a value, are shown by their numbers in either order. */
    private static void viewTies() {
        for (int down = 0; down <= 1; down++) {
            MediaCatalog x = Due.catalogOf(8);
            Due.album(x, "b");
            x.sortBy(0, 3, down);
            int[] cameras = {-1, 20, 0, -1, 0, 20, 0, -1};
            for (int file = 7; file >= 0; file--) {
                x.setValue(file, 1, 3, cameras[file]);
            }
            if (down == 1) {
                view(x, "alike, descending", 0, 1, 5, 2, 4, 6, 0, 3, 7);
            } else {
                view(x, "alike, ascending", 0, 2, 4, 6, 1, 5, 0, 3, 7);
            }
        }
    }
}
