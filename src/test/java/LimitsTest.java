/** The limits of the document: just below, at and just above each, and what becomes free again. */
final class LimitsTest {
    private LimitsTest() {
    }

    public static void main(String[] args) {
        fortyFiles();
        fortyFilesAfterMerge();
        tenStacks();
        stackNumberFreeAgain();
        eightInStack();
        everyPlace();
        oneLeftByTakeOut();
        oneLeftByRemove();
        oneLeftByMerge();
        noneLeftByMerge();
        eightyCharacters();
        rulesOfEightyCharacters();
        fiveDigits();
        greatNumbers();
        tenOpen();
        eightAlbums();
        twentyFourEntries();
        manyEntriesInOneCall();
        theLastCalls();
        Due.end();
    }

    private static void fortyFiles() {
        MediaCatalog x = Due.catalogOf(39);
        Due.is("files: 39", x.fileCount(), 39);
        Due.is("files: the 40th", x.add(1, 1), 39);
        Due.is("files: 40", x.fileCount(), 40);
        Due.is("files: the 41st", x.add(1, 1), Due.LIMIT);
        Due.is("files: still 40", x.fileCount(), 40);
        Due.is("files: the last is removed", x.remove(39), 39);
        Due.is("files: its number is free", x.add(2, 1), 39);
        Due.is("files: the first is removed", x.remove(0), 39);
        Due.is("files: its number is free", x.add(3, 1), 0);
        int[] removed = {30, 7, 39, 12};
        for (int file : removed) {
            x.remove(file);
        }
        int[] due = {7, 12, 30, 39};
        for (int file : due) {
            Due.is("files: the lowest free number", x.add(4, 1), file);
        }
        Due.is("files: full again", x.add(4, 1), Due.LIMIT);
    }

    private static void fortyFilesAfterMerge() {
        MediaCatalog x = new MediaCatalog();
        for (int file = 0; file < 40; file++) {
            x.add(7, 1);
        }
        x.setValue(20, 0, 1, 5);
        Due.is("files: merged all", x.merge(39), 39);
        Due.is("files: the keeper is left", x.fileCount(), 1);
        for (int file = 0; file < 40; file++) {
            if (file != 20) {
                Due.is("files: free after a merge", x.add(8, 1), file);
            }
        }
        Due.is("files: full after a merge", x.add(8, 1), Due.LIMIT);
    }

    private static void tenStacks() {
        MediaCatalog x = States.files();
        for (int stack = 0; stack < 9; stack++) {
            x.stack(2 * stack, 2 * stack + 1);
        }
        Due.is("stacks: 9", x.count(0), 9);
        Due.is("stacks: the 10th", x.stack(18, 19), 9);
        Due.is("stacks: 10", x.count(0), 10);
        Due.is("stacks: the 11th", x.stack(20, 21), Due.LIMIT);
        Due.is("stacks: a file can still be put into one", x.putInto(9, 20, 2), 3);
    }

    private static void stackNumberFreeAgain() {
        MediaCatalog x = States.pairs();
        x.setDigest(11, 110);
        Due.is("stacks: 9 goes by takeOut", x.takeOut(18), 0);
        Due.is("stacks: 2 goes by remove", x.remove(5), 39);
        Due.is("stacks: 5 goes by merge", x.merge(11), 1);
        Due.is("stacks: 0 goes by takeOut", x.takeOut(1), 0);
        Due.is("stacks: six are left", x.count(0), 6);
        int[] due = {0, 2, 5, 9};
        for (int i = 0; i < due.length; i++) {
            Due.is("stacks: the lowest free number", x.stack(20 + 2 * i, 21 + 2 * i), due[i]);
            Due.is("stacks: it has the new files", x.stackAt(due[i], 1), 21 + 2 * i);
        }
        Due.is("stacks: full again", x.stack(0, 1), Due.LIMIT);
    }

    private static void eightInStack() {
        MediaCatalog x = States.pairs();
        for (int stack = 0; stack <= 9; stack += 9) {
            for (int height = 2; height < 8; height++) {
                Due.is("stack: put into", x.putInto(stack, 20 + stack + height, height), height + 1);
            }
            Due.is("stack: the ninth", x.putInto(stack, 39, 8), Due.LIMIT);
            Due.is("stack: place of the eighth", x.stackAt(stack, 7), 27 + stack);
            Due.is("stack: no ninth place", x.stackAt(stack, 8), Due.MISSING);
            Due.is("stack: seven", x.takeOut(20 + stack + 4), 7);
            Due.is("stack: eight again, first", x.putInto(stack, 20 + stack + 4, 0), 8);
            Due.is("stack: the ninth again", x.putInto(stack, 39, 8), Due.LIMIT);
            int[] due = {24 + stack, 2 * stack, 2 * stack + 1, 22 + stack, 23 + stack, 25 + stack, 26 + stack, 27 + stack};
            for (int place = 0; place < 8; place++) {
                Due.is("stack: place " + place, x.stackAt(stack, place), due[place]);
            }
        }
        Due.is("stack: the neighbour of the first", x.stackAt(1, 0), 2);
        Due.is("stack: the neighbour of the last", x.stackAt(8, 1), 17);
    }

    private static void everyPlace() {
        for (int height = 2; height < 8; height++) {
            for (int place = 0; place <= height; place++) {
                MediaCatalog x = Due.catalogOf(10);
                x.stack(0, 1);
                for (int file = 2; file < height; file++) {
                    x.putInto(0, file, file);
                }
                Due.is("putInto: one place beyond the last", x.putInto(0, 9, height + 1), Due.INVALID);
                Due.is("putInto: place " + place + " of " + height, x.putInto(0, 9, place), height + 1);
                for (int at = 0; at <= height; at++) {
                    int due = at < place ? at : at == place ? 9 : at - 1;
                    Due.is("putInto: place " + place + " of " + height + ", at " + at, x.stackAt(0, at), due);
                }
                Due.is("takeOut: place " + place, x.takeOut(9), height);
                for (int at = 0; at < height; at++) {
                    Due.is("takeOut: place " + place + ", at " + at, x.stackAt(0, at), at);
                }
                Due.is("takeOut: the end", x.stackAt(0, height), Due.MISSING);
            }
        }
    }

    private static MediaCatalog two() {
        MediaCatalog x = Due.catalogOf(6);
        x.stack(4, 5);
        x.stack(1, 3);
        x.chooseCover(1, 3);
        x.collapse(1, 1);
        Due.album(x, "s");
        Due.album(x, "v");
        return x;
    }

    private static void oneLeft(String what, MediaCatalog x, int left) {
        Due.is(what + ": the stack is removed", x.coverOf(1), Due.INVALID);
        Due.is(what + ": and has no files", x.stackAt(1, 0), Due.INVALID);
        Due.is(what + ": the last file belongs to none", x.stackOf(left), Due.MISSING);
        Due.is(what + ": the last file leaves s", x.isIn(0, left), 0);
        Due.is(what + ": the last file leaves v", x.isIn(1, left), 0);
        Due.is(what + ": one stack is left", x.count(0), 1);
        Due.is(what + ": with two files", x.count(3), 2);
        Due.is(what + ": the first of them", x.stackAt(0, 0), 4);
        Due.is(what + ": the last file can be stacked", x.stack(left, 0), 1);
        Due.is(what + ": no cover is chosen", x.coverOf(1), left);
        Due.is(what + ": not collapsed", x.collapse(1, 1), 0);
    }

    private static void oneLeftByTakeOut() {
        MediaCatalog x = two();
        Due.is("takeOut: first of two", x.takeOut(1), 0);
        oneLeft("takeOut of the first", x, 3);
        x = two();
        Due.is("takeOut: second of two", x.takeOut(3), 0);
        oneLeft("takeOut of the second", x, 1);
        x = two();
        x.putInto(1, 2, 0);
        Due.is("takeOut: first of three", x.takeOut(2), 2);
        Due.is("takeOut: last of two", x.takeOut(3), 0);
        oneLeft("takeOut of two", x, 1);
    }

    private static void oneLeftByRemove() {
        MediaCatalog x = two();
        Due.is("remove: first of two", x.remove(1), 5);
        oneLeft("remove of the first", x, 3);
        x = two();
        Due.is("remove: second of two", x.remove(3), 5);
        oneLeft("remove of the second", x, 1);
        x = two();
        x.putInto(1, 2, 2);
        Due.is("remove: one of three", x.remove(3), 5);
        Due.is("remove: two remain in the stack", x.stackAt(1, 1), 2);
        Due.is("remove: the stack is as collapsed as before", x.collapse(1, 1), 1);
    }

    private static void oneLeftByMerge() {
        MediaCatalog x = two();
        x.setDigest(3, 101);
        Due.is("merge: both of a stack", x.merge(3), 1);
        oneLeft("merge of both of a stack", x, 1);
        x = two();
        x.setDigest(3, 102);
        Due.is("merge: one of a stack", x.merge(2), 1);
        oneLeft("merge with a file that belongs to none", x, 1);
    }

    private static void noneLeftByMerge() {
        MediaCatalog x = two();
        x.setDigest(1, 100);
        x.setDigest(3, 100);
        Due.is("merge: all of a stack", x.merge(1), 2);
        Due.is("merge: the stack is removed", x.coverOf(1), Due.INVALID);
        Due.is("merge: the keeper belongs to none", x.stackOf(0), Due.MISSING);
        Due.is("merge: one stack is left", x.count(0), 1);
        Due.is("merge: with two files", x.count(3), 2);
        Due.is("merge: s has two files", x.albumSize(0), 2);
        Due.is("merge: v has one file", x.albumSize(1), 1);
    }

    private static void eightyCharacters() {
        MediaCatalog x = Due.catalogOf(1);
        Due.rule(x, "!".repeat(78));
        Due.is("text: the 79th", x.type('!'), 79);
        Due.is("text: fault of 79", x.fault(), 79);
        Due.is("text: the 80th", x.type('b'), 80);
        Due.is("text: a rule", x.fault(), Due.MISSING);
        Due.is("text: the 81st", x.type('b'), Due.LIMIT);
        Due.is("text: still a rule", x.fault(), Due.MISSING);
        Due.is("text: cleared", x.clearRule(), 80);
        for (int length = 1; length <= 80; length++) {
            Due.is("text: typed again", x.type('k'), length);
        }
        Due.is("text: full again", x.type('k'), Due.LIMIT);
        Due.is("text: fault", x.fault(), 1);
        Due.rule(x, "s&".repeat(39) + "b)");
        Due.is("text: fault at the last character", x.fault(), 79);
    }

    private static void rulesOfEightyCharacters() {
        MediaCatalog x = Due.catalogOf(2);
        x.setValue(0, 0, 5, 1);
        Due.is("album: its rule has 80 characters", Due.album(x, "k?|".repeat(26) + "t0"), 0);
        Due.is("album: fully read", x.isIn(0, 0), 1);
        Due.is("album: the last condition only", x.albumSize(0), 1);
        Due.rule(x, "t1|".repeat(26) + "t2");
        x.setValue(1, 0, 5, 1);
        Due.is("album: its rule is its own", x.albumSize(0), 2);
        Due.is("changeRule: to 80 characters", x.changeRule(0), 0);
        Due.is("changeRule: to few", changed(x, "b"), 2);
        x.clearRule();
        x.setValue(1, 0, 5, 4);
        Due.is("changeRule: nothing is left of the longer rule", x.albumSize(0), 2);
    }

    private static int changed(MediaCatalog x, String rule) {
        Due.rule(x, rule);
        return x.changeRule(0);
    }

    private static void fault(String rule, int due) {
        MediaCatalog x = new MediaCatalog();
        Due.typed(x, rule);
        Due.is("fault of " + rule, x.fault(), due);
    }

    private static void fiveDigits() {
        String fields = "krycd";
        String signs = "<=>";
        for (int field = 0; field < 5; field++) {
            for (int sign = 0; sign < 3; sign++) {
                String start = "" + fields.charAt(field) + signs.charAt(sign);
                fault(start, 2);
                fault(start + "1", Due.MISSING);
                fault(start + "12", Due.MISSING);
                fault(start + "123", Due.MISSING);
                fault(start + "1234", Due.MISSING);
                fault(start + "12345", Due.MISSING);
                fault(start + "123456", 7);
                fault(start + "00000", Due.MISSING);
                fault(start + "000000", 7);
                fault("!(" + start + "99999|" + start + "999999", 17);
                fault(start + "12345&s", Due.MISSING);
            }
        }
    }

    private static void greatNumbers() {
        MediaCatalog x = Due.catalogOf(2);
        x.setValue(0, 0, 4, 9999);
        String[] yes = {"d=9999", "d=09999", "d<10000", "d<99999", "d>9998", "d>0", "d>00000", "d?"};
        String[] no = {"d=99999", "d=999", "d=9998", "d<9999", "d<09999", "d>9999", "d>10000", "d>99999", "d<0"};
        for (String rule : yes) {
            Due.rule(x, rule);
            Due.is(rule, x.satisfies(0), 1);
            Due.is(rule + " without a value", x.satisfies(1), 0);
        }
        for (String rule : no) {
            Due.rule(x, rule);
            Due.is(rule, x.satisfies(0), 0);
            Due.is(rule + " without a value", x.satisfies(1), 0);
        }
        x.setValue(0, 0, 4, 0);
        Due.rule(x, "d=00000");
        Due.is("d=00000", x.satisfies(0), 1);
        Due.rule(x, "d<1");
        Due.is("d<1", x.satisfies(0), 1);
    }

    private static void tenOpen() {
        for (int open = 1; open <= 12; open++) {
            fault("(".repeat(open), Math.min(open, 10));
            fault("(".repeat(open) + "s" + ")".repeat(open), open <= 10 ? Due.MISSING : 10);
            fault("s&".repeat(open) + "(".repeat(open) + "s" + ")".repeat(open), open <= 10 ? Due.MISSING : 2 * open + 10);
        }
        fault("(".repeat(10) + "s)&(s)&(s" + ")".repeat(9), 28);
        fault("(".repeat(10) + "s)&(s)&(s" + ")".repeat(10), Due.MISSING);
        fault("(".repeat(10) + "s)|((s", 14);
        fault("(".repeat(9) + "(s)&(s&(s", 16);
        fault("(s)|".repeat(11) + "s", Due.MISSING);
        MediaCatalog x = Due.catalogOf(2);
        x.setValue(1, 0, 5, 1);
        Due.is("ten open: an album", Due.album(x, "!(".repeat(9) + "s|(t0)" + ")".repeat(9)), 0);
        Due.is("ten open: the one without the tag", x.isIn(0, 0), 1);
        Due.is("ten open: the one with the tag", x.isIn(0, 1), 0);
    }

    private static void eightAlbums() {
        MediaCatalog x = Due.catalogOf(1);
        Due.rule(x, "b");
        for (int album = 0; album < 7; album++) {
            Due.is("albums: next number", x.makeAlbum(), album);
        }
        Due.is("albums: 7", x.count(1), 7);
        Due.is("albums: the 8th", x.makeAlbum(), 7);
        Due.is("albums: the 9th", x.makeAlbum(), Due.LIMIT);
        Due.is("albums: 8", x.count(1), 8);
        int[] removed = {6, 0, 7, 3};
        for (int i = 0; i < removed.length; i++) {
            Due.is("albums: removed", x.removeAlbum(removed[i]), 7 - i);
        }
        int[] due = {0, 3, 6, 7};
        for (int album : due) {
            Due.is("albums: the lowest free number", x.makeAlbum(), album);
        }
        Due.is("albums: full again", x.makeAlbum(), Due.LIMIT);
    }

    private static void twentyFourEntries() {
        MediaCatalog x = Due.catalogOf(1);
        Due.album(x, "r=5");
        for (int entries = 1; entries <= 50; entries++) {
            x.setValue(0, 0, 1, entries % 2 == 1 ? 5 : 4);
            int due = Math.min(entries, 24);
            Due.is("entries: " + entries, x.journalSize(), due);
            Due.is("entries: the oldest of " + entries, x.journalAt(due - 1, 2), (entries - due + 1) % 2);
            Due.is("entries: the latest of " + entries, x.journalAt(0, 2), entries % 2);
            Due.is("entries: one beyond " + entries, x.journalAt(due, 2), Due.MISSING);
        }
        Due.is("entries: joined, though forgotten", x.turnover(0, 1), 25);
        Due.is("entries: left, though forgotten", x.turnover(0, 0), 25);
    }

    private static void manyEntriesInOneCall() {
        MediaCatalog x = new MediaCatalog();
        for (int file = 0; file < 10; file++) {
            x.add(5, 1);
            x.setValue(file, 1, 1, 3);
        }
        String[] rules = {"r=3", "!a0", "r?&!a1"};
        for (String rule : rules) {
            Due.album(x, rule);
        }
        x.add(6, 1);
        for (int file = 0; file < 10; file++) {
            x.setValue(file, 0, 0, 1);
        }
        Due.rule(x, "r=2");
        Due.is("entries: of three albums", x.changeRule(0), 0);
        Due.is("entries: 24 of 30", x.journalSize(), 24);
        for (int index = 0; index < 24; index++) {
            int album = 2 - index / 10;
            Due.is("entry " + index + ": album", x.journalAt(index, 0), album);
            Due.is("entry " + index + ": file", x.journalAt(index, 1), 9 - index % 10);
            Due.is("entry " + index + ": joined", x.journalAt(index, 2), album == 1 ? 1 : 0);
        }
    }

    /** An object is used for 512 calls, and the last of them still counts. */
    private static void theLastCalls() {
        MediaCatalog x = Due.catalogOf(40);
        Due.album(x, "r=5");
        int calls = 40 + 5;
        for (int time = 0; calls < 510; time++) {
            x.setValue(time % 40, 0, 1, time / 40 % 2 == 0 ? 5 : 4);
            calls++;
        }
        Due.is("call 511: joined", x.turnover(0, 1), 6 * 40);
        Due.is("call 512: left", x.turnover(0, 0), 5 * 40 + 25);
    }
}
