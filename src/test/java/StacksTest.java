/** Promises 15 to 22: stacks and their covers. */
final class StacksTest {
    private StacksTest() {
    }

    public static void main(String[] args) {
        stackAnswers();
        stackLimit();
        putInto();
        putIntoErrors();
        takeOut();
        coverByRating();
        chooseCover();
        chosenCoverGoes();
        collapse();
        numberUsedAgain();
        places();
        Due.end();
    }

    private static MediaCatalog threeInStack() {
        MediaCatalog x = Due.catalogOf(6);
        x.stack(2, 0);
        x.putInto(0, 4, 2);
        return x;
    }

    private static void stackAnswers() {
        MediaCatalog x = Due.catalogOf(5);
        Due.is("stack: both the same", x.stack(1, 1), Due.INVALID);
        Due.is("stack: no first", x.stack(5, 1), Due.INVALID);
        Due.is("stack: no second", x.stack(1, 5), Due.INVALID);
        Due.is("stack: negative", x.stack(-1, 1), Due.INVALID);
        Due.is("stack: first", x.stack(3, 1), 0);
        Due.is("stack: order, first", x.stackAt(0, 0), 3);
        Due.is("stack: order, second", x.stackAt(0, 1), 1);
        Due.is("stack: first belongs to one", x.stack(1, 0), Due.IMPOSSIBLE);
        Due.is("stack: second belongs to one", x.stack(0, 3), Due.IMPOSSIBLE);
        Due.is("stack: both the same, in a stack", x.stack(3, 3), Due.INVALID);
        Due.is("stack: second one", x.stack(0, 2), 1);
        Due.is("stackOf: first", x.stackOf(1), 0);
        Due.is("stackOf: second", x.stackOf(2), 1);
        Due.is("stackOf: none", x.stackOf(4), Due.MISSING);
        Due.is("stackOf: no file", x.stackOf(5), Due.INVALID);
        Due.is("stackOf: negative", x.stackOf(-1), Due.INVALID);
        Due.is("count: stacks", x.count(0), 2);
        Due.is("count: stacked files", x.count(3), 4);
    }

    private static void stackLimit() {
        MediaCatalog x = Due.catalogOf(22);
        for (int stack = 0; stack < 10; stack++) {
            Due.is("stack: next number", x.stack(2 * stack, 2 * stack + 1), stack);
        }
        Due.is("stack: 11th", x.stack(20, 21), Due.LIMIT);
        Due.is("stack: 11th of a stacked file", x.stack(20, 0), Due.IMPOSSIBLE);
        Due.is("stack: 11th of no file", x.stack(20, 22), Due.INVALID);
        Due.is("stack: ten are left", x.count(0), 10);
        x.takeOut(6);
        x.takeOut(15);
        Due.is("stack: lowest free", x.stack(20, 21), 3);
        Due.is("stack: next free", x.stack(6, 7), 7);
    }

    private static void putInto() {
        MediaCatalog x = Due.catalogOf(6);
        x.stack(0, 1);
        Due.is("putInto: first place", x.putInto(0, 2, 0), 3);
        Due.is("putInto: last place", x.putInto(0, 3, 3), 4);
        Due.is("putInto: between", x.putInto(0, 4, 2), 5);
        int[] due = {2, 0, 4, 1, 3};
        for (int place = 0; place < due.length; place++) {
            Due.is("putInto: place " + place, x.stackAt(0, place), due[place]);
        }
        Due.is("putInto: stackOf", x.stackOf(4), 0);
        Due.is("putInto: end", x.stackAt(0, 5), Due.MISSING);
    }

    private static void putIntoErrors() {
        MediaCatalog x = Due.catalogOf(12);
        x.stack(0, 1);
        x.stack(10, 11);
        Due.is("putInto: no stack", x.putInto(2, 2, 0), Due.INVALID);
        Due.is("putInto: stack beyond", x.putInto(10, 2, 0), Due.INVALID);
        Due.is("putInto: negative stack", x.putInto(-1, 2, 0), Due.INVALID);
        Due.is("putInto: no file", x.putInto(0, 12, 0), Due.INVALID);
        Due.is("putInto: place below", x.putInto(0, 2, -1), Due.INVALID);
        Due.is("putInto: place above", x.putInto(0, 2, 3), Due.INVALID);
        Due.is("putInto: belongs to it", x.putInto(0, 1, 0), Due.IMPOSSIBLE);
        Due.is("putInto: belongs to another", x.putInto(0, 10, 0), Due.IMPOSSIBLE);
        Due.is("putInto: belongs to it, place above", x.putInto(0, 1, 3), Due.INVALID);
        for (int file = 2; file < 8; file++) {
            Due.is("putInto: height", x.putInto(0, file, file), file + 1);
        }
        Due.is("putInto: ninth", x.putInto(0, 8, 0), Due.LIMIT);
        Due.is("putInto: ninth, at the end", x.putInto(0, 8, 8), Due.LIMIT);
        Due.is("putInto: ninth, place above", x.putInto(0, 8, 9), Due.INVALID);
        Due.is("putInto: ninth, belongs to one", x.putInto(0, 10, 0), Due.IMPOSSIBLE);
        Due.is("putInto: the neighbour is as it was", x.stackAt(1, 0), 10);
        Due.is("putInto: last of eight", x.stackAt(0, 7), 7);
        Due.is("putInto: the refused belongs to none", x.stackOf(8), Due.MISSING);
    }

    private static void takeOut() {
        MediaCatalog x = threeInStack();
        Due.is("takeOut: no file", x.takeOut(6), Due.INVALID);
        Due.is("takeOut: negative", x.takeOut(-1), Due.INVALID);
        Due.is("takeOut: belongs to none", x.takeOut(1), Due.IMPOSSIBLE);
        Due.is("takeOut: two remain", x.takeOut(0), 2);
        Due.is("takeOut: first stays", x.stackAt(0, 0), 2);
        Due.is("takeOut: the others close up", x.stackAt(0, 1), 4);
        Due.is("takeOut: belongs to none then", x.stackOf(0), Due.MISSING);
        Due.is("takeOut: removes the stack", x.takeOut(2), 0);
        Due.is("takeOut: the last belongs to none", x.stackOf(4), Due.MISSING);
        Due.is("takeOut: the last can't be taken out", x.takeOut(4), Due.IMPOSSIBLE);
        Due.is("takeOut: no stack", x.stackAt(0, 0), Due.INVALID);
        Due.is("takeOut: count", x.count(0), 0);
        Due.is("takeOut: the files are left", x.fileCount(), 6);
    }

    private static void coverByRating() {
        MediaCatalog x = threeInStack();
        Due.is("coverOf: first in order", x.coverOf(0), 2);
        x.setValue(4, 1, 1, 0);
        Due.is("coverOf: rating 0 before none", x.coverOf(0), 4);
        x.setValue(0, 1, 1, 0);
        Due.is("coverOf: first of those alike", x.coverOf(0), 0);
        x.setValue(4, 0, 1, 5);
        Due.is("coverOf: greatest rating", x.coverOf(0), 4);
        x.setOrder(1, 0, 2);
        Due.is("coverOf: by the other order", x.coverOf(0), 0);
        Due.is("coverOf: no stack", x.coverOf(1), Due.INVALID);
        Due.is("coverOf: beyond", x.coverOf(10), Due.INVALID);
        Due.is("coverOf: negative", x.coverOf(-1), Due.INVALID);
    }

    private static void chooseCover() {
        MediaCatalog x = threeInStack();
        x.setValue(2, 0, 1, 5);
        x.stack(1, 3);
        Due.is("chooseCover: chosen", x.chooseCover(0, 4), 4);
        Due.is("chooseCover: stays", x.coverOf(0), 4);
        Due.is("chooseCover: not in a stack", x.chooseCover(0, 5), Due.IMPOSSIBLE);
        Due.is("chooseCover: in another stack", x.chooseCover(0, 1), Due.IMPOSSIBLE);
        Due.is("chooseCover: no file", x.chooseCover(0, 6), Due.INVALID);
        Due.is("chooseCover: below -1", x.chooseCover(0, -2), Due.INVALID);
        Due.is("chooseCover: no stack", x.chooseCover(2, 4), Due.INVALID);
        Due.is("chooseCover: no stack, -1", x.chooseCover(2, -1), Due.INVALID);
        Due.is("chooseCover: an error changes nothing", x.coverOf(0), 4);
        Due.is("chooseCover: ended", x.chooseCover(0, -1), 2);
        Due.is("chooseCover: ended twice", x.chooseCover(0, -1), 2);
    }

    private static void chosenCoverGoes() {
        MediaCatalog x = threeInStack();
        x.setValue(2, 0, 1, 1);
        x.chooseCover(0, 4);
        x.takeOut(4);
        Due.is("takeOut: of the chosen cover", x.coverOf(0), 2);
        x.putInto(0, 4, 0);
        Due.is("takeOut: it is chosen no more", x.coverOf(0), 2);
        x.chooseCover(0, 4);
        x.takeOut(2);
        Due.is("takeOut: of another file", x.coverOf(0), 4);
    }

    private static void collapse() {
        MediaCatalog x = threeInStack();
        Due.is("collapse: initially not", x.collapse(0, 1), 0);
        Due.is("collapse: twice", x.collapse(0, 1), 1);
        Due.is("collapse: expand", x.collapse(0, 0), 1);
        Due.is("collapse: expanded", x.collapse(0, 0), 0);
        Due.is("collapse: above", x.collapse(0, 2), Due.INVALID);
        Due.is("collapse: below", x.collapse(0, -1), Due.INVALID);
        Due.is("collapse: no stack", x.collapse(1, 1), Due.INVALID);
        Due.is("collapse: negative stack", x.collapse(-1, 1), Due.INVALID);
    }

    private static void numberUsedAgain() {
        MediaCatalog x = threeInStack();
        x.collapse(0, 1);
        x.chooseCover(0, 0);
        x.takeOut(4);
        x.takeOut(2);
        Due.is("stack: number used again", x.stack(1, 0), 0);
        Due.is("stack: no cover is chosen", x.coverOf(0), 1);
        Due.is("stack: not collapsed", x.collapse(0, 0), 0);
    }

    private static void places() {
        MediaCatalog x = threeInStack();
        Due.is("stackAt: last", x.stackAt(0, 2), 4);
        Due.is("stackAt: beyond", x.stackAt(0, 3), Due.MISSING);
        Due.is("stackAt: far beyond", x.stackAt(0, Integer.MAX_VALUE), Due.MISSING);
        Due.is("stackAt: negative", x.stackAt(0, -1), Due.INVALID);
        Due.is("stackAt: no stack", x.stackAt(1, 0), Due.INVALID);
        Due.is("stackAt: no stack, beyond", x.stackAt(1, 9), Due.INVALID);
    }
}
