import java.util.ArrayList;
import java.util.List;
import java.util.function.Supplier;
import java.util.function.ToIntFunction;

/**
 * Tells whether a refused call has changed something: afterwards the catalog that got it must answer
 * as its twin does, which was made in the same way and did not get it.
 *
 * What there is to ask is asked in parts, each of new twins, so that no object gets more than 512 calls.
 */
final class Twins {
    private static final int PARTS = 6;
    private static final int FILES = 40;
    private static final int STACKS = 10;
    private static final int ALBUMS = 8;
    private static final int SHOWN_FIELDS = 8;

    private Twins() {
    }

    static void refused(String what, Supplier<MediaCatalog> maker, ToIntFunction<MediaCatalog> call, int due) {
        for (int part = 0; part < PARTS; part++) {
            MediaCatalog asked = maker.get();
            int answer = call.applyAsInt(asked);
            if (part == 0) {
                Due.is(what, answer, due);
            }
            compare(what + " changes nothing, part " + part, answers(asked, part), answers(maker.get(), part));
        }
    }

    private static void compare(String what, List<Integer> answers, List<Integer> due) {
        Due.is(what + ", answers", answers.size(), due.size());
        for (int i = 0; i < Math.min(answers.size(), due.size()); i++) {
            Due.is(what + ", answer " + i, answers.get(i), due.get(i));
        }
    }

    private static List<Integer> answers(MediaCatalog x, int part) {
        List<Integer> answers = new ArrayList<>();
        switch (part) {
            case 0:
                askValues(x, answers);
                break;
            case 1:
                askGroups(x, answers);
                break;
            case 2:
                askStacks(x, answers);
                break;
            case 3:
                askAlbums(x, answers);
                break;
            case 4:
                askViews(x, answers);
                break;
            default:
                askJournalAndText(x, answers);
                break;
        }
        return answers;
    }

    private static void askValues(MediaCatalog x, List<Integer> answers) {
        answers.add(x.fileCount());
        for (int file = 0; file < FILES; file++) {
            for (int field = 0; field < SHOWN_FIELDS; field++) {
                answers.add(x.value(file, field));
            }
        }
        answers.add(x.add(1, 1));
    }

    private static void askGroups(MediaCatalog x, List<Integer> answers) {
        for (int file = 0; file < FILES; file++) {
            answers.add(x.keeperOf(file));
            answers.add(x.groupSize(file));
            for (int field = 0; field <= 4; field++) {
                answers.add(x.sourceOf(file, field));
            }
        }
        answers.add(x.wasted());
        for (int what = 0; what <= 4; what++) {
            answers.add(x.count(what));
        }
    }

    private static void askStacks(MediaCatalog x, List<Integer> answers) {
        for (int file = 0; file < FILES; file++) {
            answers.add(x.stackOf(file));
        }
        for (int stack = 0; stack < STACKS; stack++) {
            answers.add(x.coverOf(stack));
            for (int place = 0; place <= 8; place++) {
                answers.add(x.stackAt(stack, place));
            }
            answers.add(x.collapse(stack, 0));
            answers.add(x.chooseCover(stack, -1));
        }
        answers.add(x.stack(10, 11));
        answers.add(x.count(0));
    }

    private static void askAlbums(MediaCatalog x, List<Integer> answers) {
        for (int album = 0; album < ALBUMS; album++) {
            answers.add(x.albumSize(album));
            for (int file = 0; file < FILES; file++) {
                answers.add(x.isIn(album, file));
            }
        }
    }

    private static void askViews(MediaCatalog x, List<Integer> answers) {
        for (int album = 0; album < ALBUMS; album++) {
            int size = x.viewSize(album);
            answers.add(size);
            for (int place = 0; place <= size; place++) {
                answers.add(x.viewAt(album, place));
            }
            answers.add(x.sortBy(album, 0, 0));
        }
        answers.add(x.makeAlbum());
        answers.add(x.count(1));
    }

    /** Another order of the sources shows which rules the albums have, and cleared values what was told. */
    private static void askJournalAndText(MediaCatalog x, List<Integer> answers) {
        askJournal(x, answers);
        answers.add(x.fault());
        answers.add(x.select());
        answers.add(x.type('!'));
        answers.add(x.fault());
        answers.add(x.clearRule());
        answers.add(x.setOrder(2, 1, 0));
        askJournal(x, answers);
        for (int file = 0; file < 8; file++) {
            for (int source = 0; source <= 2; source++) {
                for (int field = 0; field <= 5; field += 5) {
                    answers.add(x.clearValue(file, source, field));
                }
            }
        }
    }

    private static void askJournal(MediaCatalog x, List<Integer> answers) {
        answers.add(x.journalSize());
        for (int index = 0; index <= 24; index++) {
            for (int what = 0; what <= 2; what++) {
                answers.add(x.journalAt(index, what));
            }
        }
        for (int album = 0; album < ALBUMS; album++) {
            answers.add(x.turnover(album, 0));
            answers.add(x.turnover(album, 1));
        }
    }
}
