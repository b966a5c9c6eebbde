import java.util.Arrays;

/**
 * A catalog of media files with stacks, groups of duplicates, rules, albums and a journal.
 *
 * A set of files is held as the bits of a long (bit n for file n): there are at most 40 files,
 * and so a rule is worked out for all files at once without making objects.
 */
public final class MediaCatalog {
    public static final int INVALID_ARGUMENT = -1;
    public static final int NOT_POSSIBLE = -2;
    public static final int LIMIT_REACHED = -3;
    public static final int NOT_FOUND = -4;

    private static final int NONE = -1;
    private static final int MAX_FILES = 40;
    private static final int MAX_STACKS = 10;
    private static final int MAX_STACK_FILES = 8;
    private static final int MAX_ALBUMS = 8;
    private static final int MAX_ENTRIES = 24;
    private static final int MAX_TEXT = 80;
    private static final int MAX_OPEN = 10;
    private static final int MAX_DIGITS = 5;
    private static final int MAX_DIGEST = 9999;
    private static final int MAX_SIZE = 100000;
    private static final int LAST_DIGIT = 9;
    private static final int FIRST_CHARACTER = 33;
    private static final int LAST_CHARACTER = 126;

    private static final int SOURCES = 3;
    private static final int FIELDS = 6;
    private static final int RATING = 1;
    private static final int YEAR = 2;
    private static final int LAST_PLAIN_FIELD = 4;
    private static final int TAGS = 5;
    private static final int DIGEST = 6;
    private static final int SIZE = 7;
    private static final int YEAR_IF_NONE = 9999;
    private static final int[] LEAST_VALUES = {0, 0, 1900, 0, 0, 0};
    private static final int[] GREATEST_VALUES = {2, 5, 2100, 20, 9999, 1023};

    private final FileTable files;
    private final GroupTable groups;
    private final StackTable stacks;
    private final RuleText text;
    private final Album[] albums;
    private final RuleJudge judge;
    private final View view;
    private final Journal journal;

    public MediaCatalog() {
        files = new FileTable();
        groups = new GroupTable(files);
        stacks = new StackTable(files);
        text = new RuleText();
        albums = new Album[MAX_ALBUMS];
        for (int album = 0; album < MAX_ALBUMS; album++) {
            albums[album] = new Album();
        }
        judge = new RuleJudge(files, groups, stacks, albums);
        view = new View(files, stacks);
        journal = new Journal();
    }

    // ---- files

    public int add(int digest, int size) {
        if (!isWithin(digest, 0, MAX_DIGEST) || !isWithin(size, 1, MAX_SIZE)) {
            return INVALID_ARGUMENT;
        }
        int file = files.freeNumber();
        if (file == NONE) {
            return LIMIT_REACHED;
        }
        files.enter(file, digest, size);
        settle();
        return file;
    }

    public int remove(int file) {
        if (!files.has(file)) {
            return INVALID_ARGUMENT;
        }
        discard(file);
        settle();
        return files.howMany();
    }

    public int fileCount() {
        return files.howMany();
    }

    public int setDigest(int file, int digest) {
        if (!files.has(file) || !isWithin(digest, 0, MAX_DIGEST)) {
            return INVALID_ARGUMENT;
        }
        int previous = files.digest(file);
        files.changeDigest(file, digest);
        settle();
        return previous;
    }

    public int setValue(int file, int source, int field, int value) {
        if (!isSlot(file, source, field)
                || !isWithin(value, LEAST_VALUES[field], GREATEST_VALUES[field])) {
            return INVALID_ARGUMENT;
        }
        int previous = files.told(file, source, field);
        files.tell(file, source, field, value);
        settle();
        return orNotFound(previous);
    }

    public int clearValue(int file, int source, int field) {
        if (!isSlot(file, source, field)) {
            return INVALID_ARGUMENT;
        }
        int previous = files.told(file, source, field);
        if (previous == NONE) {
            return NOT_FOUND;
        }
        files.tell(file, source, field, NONE);
        settle();
        return previous;
    }

    public int value(int file, int field) {
        if (!files.has(file) || !isWithin(field, 0, SIZE)) {
            return INVALID_ARGUMENT;
        }
        switch (field) {
            case DIGEST:
                return files.digest(file);
            case SIZE:
                return files.bytes(file);
            default:
                return orNotFound(files.settledValue(file, field));
        }
    }

    public int sourceOf(int file, int field) {
        if (!files.has(file) || !isWithin(field, 0, LAST_PLAIN_FIELD)) {
            return INVALID_ARGUMENT;
        }
        return orNotFound(files.firstTeller(file, field));
    }

    public int setOrder(int first, int second, int third) {
        if (!isSource(first) || !isSource(second) || !isSource(third)
                || first == second || first == third || second == third) {
            return INVALID_ARGUMENT;
        }
        int previous = files.orderCode();
        files.reorder(first, second, third);
        settle();
        return previous;
    }

    // ---- duplicates

    public int keeperOf(int file) {
        if (!files.has(file)) {
            return INVALID_ARGUMENT;
        }
        return groups.keeper(file);
    }

    public int groupSize(int file) {
        if (!files.has(file)) {
            return INVALID_ARGUMENT;
        }
        return Long.bitCount(files.alike(file));
    }

    public int wasted() {
        return files.sumOfSizes(files.all() & ~groups.keepers());
    }

    public int merge(int file) {
        if (!files.has(file)) {
            return INVALID_ARGUMENT;
        }
        int keeper = groups.keeper(file);
        long others = files.alike(file) & ~only(keeper);
        if (others == 0) {
            return NOT_POSSIBLE;
        }
        files.absorb(keeper, others);
        for (int other = 0; other < MAX_FILES; other++) {
            if (holds(others, other)) {
                discard(other);
            }
        }
        settle();
        return Long.bitCount(others);
    }

    // ---- stacks

    public int stack(int first, int second) {
        if (!files.has(first) || !files.has(second) || first == second) {
            return INVALID_ARGUMENT;
        }
        if (stacks.home(first) != NONE || stacks.home(second) != NONE) {
            return NOT_POSSIBLE;
        }
        int stack = stacks.freeNumber();
        if (stack == NONE) {
            return LIMIT_REACHED;
        }
        stacks.begin(stack, first, second);
        settle();
        return stack;
    }

    public int putInto(int stack, int file, int place) {
        if (!stacks.has(stack) || !files.has(file) || !isWithin(place, 0, stacks.height(stack))) {
            return INVALID_ARGUMENT;
        }
        if (stacks.home(file) != NONE) {
            return NOT_POSSIBLE;
        }
        if (stacks.height(stack) == MAX_STACK_FILES) {
            return LIMIT_REACHED;
        }
        stacks.insert(stack, file, place);
        settle();
        return stacks.height(stack);
    }

    public int takeOut(int file) {
        if (!files.has(file)) {
            return INVALID_ARGUMENT;
        }
        int stack = stacks.home(file);
        if (stack == NONE) {
            return NOT_POSSIBLE;
        }
        stacks.release(file);
        settle();
        return stacks.height(stack);
    }

    public int chooseCover(int stack, int file) {
        if (!stacks.has(stack) || (file != NONE && !files.has(file))) {
            return INVALID_ARGUMENT;
        }
        if (file != NONE && stacks.home(file) != stack) {
            return NOT_POSSIBLE;
        }
        stacks.choose(stack, file);
        settle();
        return stacks.cover(stack);
    }

    public int collapse(int stack, int on) {
        if (!stacks.has(stack) || !isWithin(on, 0, 1)) {
            return INVALID_ARGUMENT;
        }
        int previous = stacks.isCollapsed(stack) ? 1 : 0;
        stacks.fold(stack, on == 1);
        return previous;
    }

    public int stackOf(int file) {
        if (!files.has(file)) {
            return INVALID_ARGUMENT;
        }
        return orNotFound(stacks.home(file));
    }

    public int coverOf(int stack) {
        if (!stacks.has(stack)) {
            return INVALID_ARGUMENT;
        }
        return stacks.cover(stack);
    }

    public int stackAt(int stack, int place) {
        if (!stacks.has(stack) || place < 0) {
            return INVALID_ARGUMENT;
        }
        return orNotFound(stacks.fileAt(stack, place));
    }

    // ---- rules

    public int type(int character) {
        if (!isWithin(character, FIRST_CHARACTER, LAST_CHARACTER)) {
            return INVALID_ARGUMENT;
        }
        if (text.length() == MAX_TEXT) {
            return LIMIT_REACHED;
        }
        text.append((char) character);
        return text.length();
    }

    public int clearRule() {
        int previous = text.length();
        text.empty();
        return previous;
    }

    public int fault() {
        return orNotFound(text.firstFault());
    }

    public int satisfies(int file) {
        if (!files.has(file)) {
            return INVALID_ARGUMENT;
        }
        if (!isTextUsable(MAX_ALBUMS)) {
            return NOT_POSSIBLE;
        }
        return holds(judge.filesFor(text), file) ? 1 : 0;
    }

    public int select() {
        if (!isTextUsable(MAX_ALBUMS)) {
            return NOT_POSSIBLE;
        }
        return Long.bitCount(judge.filesFor(text));
    }

    // ---- albums

    public int makeAlbum() {
        int album = freeAlbum();
        if (!isTextUsable(album)) {
            return NOT_POSSIBLE;
        }
        if (album == MAX_ALBUMS) {
            return LIMIT_REACHED;
        }
        albums[album].begin(text);
        settle();
        return album;
    }

    public int removeAlbum(int album) {
        if (!hasAlbum(album)) {
            return INVALID_ARGUMENT;
        }
        if (isNamed(album)) {
            return NOT_POSSIBLE;
        }
        albums[album].end();
        return albumCount();
    }

    public int changeRule(int album) {
        if (!hasAlbum(album)) {
            return INVALID_ARGUMENT;
        }
        if (!isTextUsable(album)) {
            return NOT_POSSIBLE;
        }
        albums[album].follow(text);
        settle();
        return Long.bitCount(albums[album].members());
    }

    public int albumSize(int album) {
        if (!hasAlbum(album)) {
            return INVALID_ARGUMENT;
        }
        return Long.bitCount(albums[album].members());
    }

    public int isIn(int album, int file) {
        if (!hasAlbum(album) || !files.has(file)) {
            return INVALID_ARGUMENT;
        }
        return holds(albums[album].members(), file) ? 1 : 0;
    }

    public int sortBy(int album, int field, int down) {
        if (!hasAlbum(album) || !isWithin(field, 0, LAST_PLAIN_FIELD) || !isWithin(down, 0, 1)) {
            return INVALID_ARGUMENT;
        }
        int previous = albums[album].sortCode();
        albums[album].sort(field, down == 1);
        return previous;
    }

    public int viewSize(int album) {
        if (!hasAlbum(album)) {
            return INVALID_ARGUMENT;
        }
        return Long.bitCount(view.shown(albums[album]));
    }

    public int viewAt(int album, int place) {
        if (!hasAlbum(album) || place < 0) {
            return INVALID_ARGUMENT;
        }
        return orNotFound(view.fileAt(albums[album], place));
    }

    // ---- journal

    public int journalSize() {
        return journal.length();
    }

    public int journalAt(int index, int what) {
        if (index < 0 || !isWithin(what, 0, 2)) {
            return INVALID_ARGUMENT;
        }
        if (index >= journal.length()) {
            return NOT_FOUND;
        }
        switch (what) {
            case 0:
                return journal.album(index);
            case 1:
                return journal.file(index);
            default:
                return journal.hasJoined(index) ? 1 : 0;
        }
    }

    public int turnover(int album, int what) {
        if (!hasAlbum(album) || !isWithin(what, 0, 1)) {
            return INVALID_ARGUMENT;
        }
        return what == 1 ? albums[album].joined() : albums[album].left();
    }

    public int count(int what) {
        switch (what) {
            case 0:
                return stacks.howMany();
            case 1:
                return albumCount();
            case 2:
                return Long.bitCount(groups.keepers() & groups.duplicates());
            case 3:
                return Long.bitCount(stacks.stacked());
            case 4:
                return files.sumOfSizes(files.all());
            default:
                return INVALID_ARGUMENT;
        }
    }

    // ---- parts of several methods

    private static boolean isWithin(int number, int least, int greatest) {
        return number >= least && number <= greatest;
    }

    private static boolean isSource(int source) {
        return isWithin(source, 0, SOURCES - 1);
    }

    private static int orNotFound(int answer) {
        return answer == NONE ? NOT_FOUND : answer;
    }

    private static boolean holds(long set, int file) {
        return (set >>> file & 1) == 1;
    }

    private static long only(int file) {
        return 1L << file;
    }

    private boolean isSlot(int file, int source, int field) {
        return files.has(file) && isSource(source) && isWithin(field, 0, FIELDS - 1);
    }

    private void discard(int file) {
        stacks.release(file);
        files.drop(file);
    }

    private boolean hasAlbum(int album) {
        return isWithin(album, 0, MAX_ALBUMS - 1) && albums[album].exists();
    }

    private int albumCount() {
        int number = 0;
        for (int album = 0; album < MAX_ALBUMS; album++) {
            if (hasAlbum(album)) {
                number++;
            }
        }
        return number;
    }

    /** The lowest free number, which is MAX_ALBUMS if all are taken. */
    private int freeAlbum() {
        int album = 0;
        while (album < MAX_ALBUMS && hasAlbum(album)) {
            album++;
        }
        return album;
    }

    private boolean isNamed(int album) {
        for (int other = 0; other < MAX_ALBUMS; other++) {
            if (hasAlbum(other) && albums[other].names(album)) {
                return true;
            }
        }
        return false;
    }

    /** Whether the text is a rule and each album that it names exists and has a lower number. */
    private boolean isTextUsable(int below) {
        if (text.firstFault() != NONE) {
            return false;
        }
        for (int album = 0; album <= LAST_DIGIT; album++) {
            if (text.names(album) && (album >= below || !hasAlbum(album))) {
                return false;
            }
        }
        return true;
    }

    /**
     * Brings up to date all that follows from the rest: keepers and covers follow from the values,
     * the albums from all of them, and an album from those with lower numbers.
     */
    private void settle() {
        files.settleValues();
        groups.regroup();
        stacks.findCovers();
        for (int album = 0; album < MAX_ALBUMS; album++) {
            if (hasAlbum(album)) {
                long now = judge.filesFor(albums[album].rule());
                albums[album].become(now, album, journal);
            }
        }
    }

    /** The files and what the sources tell of them. */
    private static final class FileTable {
        private long present;
        private final int[] digests;
        private final int[] sizes;
        private final int[] values;
        /** For each file and field what follows from the values of all sources. */
        private final int[] settled;
        private final int[] order;

        FileTable() {
            digests = new int[MAX_FILES];
            sizes = new int[MAX_FILES];
            values = new int[MAX_FILES * SOURCES * FIELDS];
            settled = new int[MAX_FILES * FIELDS];
            order = new int[SOURCES];
            for (int source = 0; source < SOURCES; source++) {
                order[source] = source;
            }
        }

        boolean has(int file) {
            return isWithin(file, 0, MAX_FILES - 1) && holds(present, file);
        }

        long all() {
            return present;
        }

        int howMany() {
            return Long.bitCount(present);
        }

        int freeNumber() {
            for (int file = 0; file < MAX_FILES; file++) {
                if (!holds(present, file)) {
                    return file;
                }
            }
            return NONE;
        }

        void enter(int file, int digest, int size) {
            present |= only(file);
            digests[file] = digest;
            sizes[file] = size;
            Arrays.fill(values, slot(file, 0, 0), slot(file + 1, 0, 0), NONE);
        }

        void drop(int file) {
            present &= ~only(file);
        }

        int digest(int file) {
            return digests[file];
        }

        void changeDigest(int file, int digest) {
            digests[file] = digest;
        }

        int bytes(int file) {
            return sizes[file];
        }

        int told(int file, int source, int field) {
            return values[slot(file, source, field)];
        }

        void tell(int file, int source, int field, int value) {
            values[slot(file, source, field)] = value;
        }

        int firstTeller(int file, int field) {
            for (int rank = 0; rank < SOURCES; rank++) {
                if (told(file, order[rank], field) != NONE) {
                    return order[rank];
                }
            }
            return NONE;
        }

        /** The value of a field, or NONE; for the tags 0 if there are none. */
        int settledValue(int file, int field) {
            return settled[file * FIELDS + field];
        }

        void settleValues() {
            for (int file = 0; file < MAX_FILES; file++) {
                if (holds(present, file)) {
                    settleFile(file);
                }
            }
        }

        private void settleFile(int file) {
            for (int field = 0; field <= LAST_PLAIN_FIELD; field++) {
                int source = firstTeller(file, field);
                settled[file * FIELDS + field] = source == NONE ? NONE : told(file, source, field);
            }
            int tags = 0;
            for (int source = 0; source < SOURCES; source++) {
                tags |= Math.max(told(file, source, TAGS), 0);
            }
            settled[file * FIELDS + TAGS] = tags;
        }

        int orderCode() {
            return 100 * order[0] + 10 * order[1] + order[2];
        }

        void reorder(int first, int second, int third) {
            order[0] = first;
            order[1] = second;
            order[2] = third;
        }

        /** The files with the digest of this one, itself among them. */
        long alike(int file) {
            long found = 0;
            for (int other = 0; other < MAX_FILES; other++) {
                if (holds(present, other) && digests[other] == digests[file]) {
                    found |= only(other);
                }
            }
            return found;
        }

        int sumOfSizes(long set) {
            int sum = 0;
            for (int file = 0; file < MAX_FILES; file++) {
                if (holds(set, file)) {
                    sum += sizes[file];
                }
            }
            return sum;
        }

        /** Gives the keeper what the others know and it does not. */
        void absorb(int keeper, long others) {
            for (int other = 0; other < MAX_FILES; other++) {
                if (holds(others, other)) {
                    absorbOne(keeper, other);
                }
            }
        }

        private void absorbOne(int keeper, int other) {
            for (int source = 0; source < SOURCES; source++) {
                for (int field = 0; field <= LAST_PLAIN_FIELD; field++) {
                    if (told(keeper, source, field) == NONE) {
                        tell(keeper, source, field, told(other, source, field));
                    }
                }
                tell(keeper, source, TAGS,
                        union(told(keeper, source, TAGS), told(other, source, TAGS)));
            }
        }

        /** No tags from either side stay no value; else a missing side counts as no tags. */
        private static int union(int tags, int more) {
            if (tags == NONE) {
                return more;
            }
            return more == NONE ? tags : tags | more;
        }

        private static int slot(int file, int source, int field) {
            return (file * SOURCES + source) * FIELDS + field;
        }
    }

    /** The groups of files with the same digest. */
    private static final class GroupTable {
        private final FileTable files;
        private long keepers;
        private long duplicates;

        GroupTable(FileTable files) {
            this.files = files;
        }

        long keepers() {
            return keepers;
        }

        long duplicates() {
            return duplicates;
        }

        int keeper(int file) {
            return preferred(files.alike(file));
        }

        void regroup() {
            keepers = 0;
            duplicates = 0;
            long waiting = files.all();
            for (int file = 0; file < MAX_FILES; file++) {
                if (holds(waiting, file)) {
                    long group = files.alike(file);
                    keepers |= only(preferred(group));
                    if (Long.bitCount(group) > 1) {
                        duplicates |= group;
                    }
                    waiting &= ~group;
                }
            }
        }

        private int preferred(long group) {
            int best = NONE;
            for (int file = 0; file < MAX_FILES; file++) {
                if (holds(group, file) && (best == NONE || beats(file, best))) {
                    best = file;
                }
            }
            return best;
        }

        /** Whether rating or year speak for the file; if neither does, the lower number stays. */
        private boolean beats(int file, int best) {
            int rating = files.settledValue(file, RATING);
            int bestRating = files.settledValue(best, RATING);
            if (rating != bestRating) {
                return rating > bestRating;
            }
            return yearOf(file) < yearOf(best);
        }

        private int yearOf(int file) {
            int year = files.settledValue(file, YEAR);
            return year == NONE ? YEAR_IF_NONE : year;
        }
    }

    /** The stacks: for each a row of places in one array, and for each file its stack. */
    private static final class StackTable {
        private final FileTable files;
        private final int[] places;
        private final int[] heights;
        private final int[] chosen;
        private final boolean[] collapsed;
        private final int[] homes;
        private long stacked;
        private long covers;

        StackTable(FileTable files) {
            this.files = files;
            places = new int[MAX_STACKS * MAX_STACK_FILES];
            heights = new int[MAX_STACKS];
            chosen = new int[MAX_STACKS];
            collapsed = new boolean[MAX_STACKS];
            homes = new int[MAX_FILES];
            Arrays.fill(homes, NONE);
        }

        boolean has(int stack) {
            return isWithin(stack, 0, MAX_STACKS - 1) && heights[stack] > 0;
        }

        int howMany() {
            int number = 0;
            for (int stack = 0; stack < MAX_STACKS; stack++) {
                if (has(stack)) {
                    number++;
                }
            }
            return number;
        }

        int freeNumber() {
            for (int stack = 0; stack < MAX_STACKS; stack++) {
                if (!has(stack)) {
                    return stack;
                }
            }
            return NONE;
        }

        long stacked() {
            return stacked;
        }

        long covers() {
            return covers;
        }

        /** The stack of a file, or NONE. */
        int home(int file) {
            return homes[file];
        }

        int height(int stack) {
            return heights[stack];
        }

        boolean isCollapsed(int stack) {
            return collapsed[stack];
        }

        void fold(int stack, boolean on) {
            collapsed[stack] = on;
        }

        void choose(int stack, int file) {
            chosen[stack] = file;
        }

        void begin(int stack, int first, int second) {
            chosen[stack] = NONE;
            collapsed[stack] = false;
            insert(stack, first, 0);
            insert(stack, second, 1);
        }

        void insert(int stack, int file, int place) {
            for (int to = heights[stack]; to > place; to--) {
                places[spot(stack, to)] = places[spot(stack, to - 1)];
            }
            places[spot(stack, place)] = file;
            heights[stack]++;
            homes[file] = stack;
            stacked |= only(file);
        }

        /** Takes a file from its stack, if it has one, and ends a stack with one file left. */
        void release(int file) {
            int stack = homes[file];
            if (stack == NONE) {
                return;
            }
            closeGap(stack, file);
            leave(file);
            if (chosen[stack] == file) {
                chosen[stack] = NONE;
            }
            if (heights[stack] == 1) {
                leave(places[spot(stack, 0)]);
                heights[stack] = 0;
            }
        }

        private void closeGap(int stack, int file) {
            int kept = 0;
            for (int place = 0; place < heights[stack]; place++) {
                int other = places[spot(stack, place)];
                if (other != file) {
                    places[spot(stack, kept)] = other;
                    kept++;
                }
            }
            heights[stack] = kept;
        }

        private void leave(int file) {
            homes[file] = NONE;
            stacked &= ~only(file);
        }

        /** The file at a place of a stack, or NONE if the stack is not so high. */
        int fileAt(int stack, int place) {
            return place < heights[stack] ? places[spot(stack, place)] : NONE;
        }

        int cover(int stack) {
            if (chosen[stack] != NONE) {
                return chosen[stack];
            }
            int best = places[spot(stack, 0)];
            for (int place = 1; place < heights[stack]; place++) {
                int file = places[spot(stack, place)];
                if (files.settledValue(file, RATING) > files.settledValue(best, RATING)) {
                    best = file;
                }
            }
            return best;
        }

        void findCovers() {
            covers = 0;
            for (int stack = 0; stack < MAX_STACKS; stack++) {
                if (has(stack)) {
                    covers |= only(cover(stack));
                }
            }
        }

        /** Leaves of the stack, if it has files in the set, only the one that is shown. */
        long withoutHidden(int stack, long set) {
            long rest = set;
            int shown = NONE;
            for (int place = 0; place < heights[stack]; place++) {
                int file = places[spot(stack, place)];
                if (shown == NONE && holds(set, file)) {
                    shown = file;
                }
                rest &= ~only(file);
            }
            if (shown == NONE) {
                return set;
            }
            int cover = cover(stack);
            return rest | only(holds(set, cover) ? cover : shown);
        }

        private static int spot(int stack, int place) {
            return stack * MAX_STACK_FILES + place;
        }
    }

    /** A rule text, which need not be a rule yet. */
    private static final class RuleText {
        private static final int WRONG = -1;
        private static final int WANTS_ITEM = 0;
        private static final int WANTS_COMPARISON = 1;
        private static final int WANTS_DIGIT = 2;
        private static final int AFTER_ITEM = 3;
        /** NUMBER + n: n digits of a number have been read. */
        private static final int NUMBER = 4;

        private final char[] characters;
        private int length;

        RuleText() {
            characters = new char[MAX_TEXT];
        }

        int length() {
            return length;
        }

        void append(char character) {
            if (length < MAX_TEXT) {
                characters[length] = character;
                length++;
            }
        }

        void empty() {
            length = 0;
        }

        void copy(RuleText other) {
            System.arraycopy(other.characters, 0, characters, 0, other.length);
            length = other.length;
        }

        /** The character at a position, or 0 if the text is not so long. */
        char at(int position) {
            return position >= 0 && position < length ? characters[position] : 0;
        }

        /** The value of the digits from a position on. */
        int numberAt(int position) {
            int number = 0;
            for (int next = position; next < position + MAX_DIGITS && isDigit(at(next)); next++) {
                number = 10 * number + (at(next) - '0');
            }
            return number;
        }

        /** Whether a rule names an album; an "a" is nothing else in a rule. */
        boolean names(int album) {
            for (int position = 0; position < length; position++) {
                if (at(position) == 'a' && at(position + 1) - '0' == album) {
                    return true;
                }
            }
            return false;
        }

        /** The fault of the text, or NONE if it is a rule. */
        int firstFault() {
            int state = WANTS_ITEM;
            int open = 0;
            for (int position = 0; position < length; position++) {
                char character = characters[position];
                state = next(state, character, open);
                if (state == WRONG) {
                    return position;
                }
                if (character == '(') {
                    open++;
                } else if (character == ')') {
                    open--;
                }
            }
            return state >= AFTER_ITEM && state != NUMBER && open == 0 ? NONE : length;
        }

        private static int next(int state, char character, int open) {
            switch (state) {
                case WANTS_ITEM:
                    return inItem(character, open);
                case WANTS_COMPARISON:
                    return afterField(character);
                case WANTS_DIGIT:
                    return isDigit(character) ? AFTER_ITEM : WRONG;
                case AFTER_ITEM:
                    return afterItem(character, open);
                default:
                    return inNumber(state, character, open);
            }
        }

        private static int inItem(char character, int open) {
            if (character == '!' || (character == '(' && open < MAX_OPEN)) {
                return WANTS_ITEM;
            }
            if (fieldNamed(character) != NONE) {
                return WANTS_COMPARISON;
            }
            switch (character) {
                case 't':
                case 'a':
                    return WANTS_DIGIT;
                case 's':
                case 'v':
                case 'u':
                case 'b':
                    return AFTER_ITEM;
                default:
                    return WRONG;
            }
        }

        private static int afterField(char character) {
            switch (character) {
                case '<':
                case '=':
                case '>':
                    return NUMBER;
                case '?':
                    return AFTER_ITEM;
                default:
                    return WRONG;
            }
        }

        private static int inNumber(int state, char character, int open) {
            int digits = state - NUMBER;
            if (isDigit(character)) {
                return digits < MAX_DIGITS ? state + 1 : WRONG;
            }
            return digits > 0 ? afterItem(character, open) : WRONG;
        }

        private static int afterItem(char character, int open) {
            if (character == '&' || character == '|') {
                return WANTS_ITEM;
            }
            return character == ')' && open > 0 ? AFTER_ITEM : WRONG;
        }

        private static boolean isDigit(char character) {
            return character >= '0' && character <= '9';
        }

        /** The field that a letter names in a rule, or NONE. */
        static int fieldNamed(char character) {
            switch (character) {
                case 'k':
                    return 0;
                case 'r':
                    return 1;
                case 'y':
                    return 2;
                case 'c':
                    return 3;
                case 'd':
                    return 4;
                default:
                    return NONE;
            }
        }
    }

    /** Finds the files that satisfy a rule, for all files at once. */
    private static final class RuleJudge {
        private final FileTable files;
        private final GroupTable groups;
        private final StackTable stacks;
        private final Album[] albums;
        /** For each open parenthesis: the files of the parts that have ended. */
        private final long[] ended;
        /** For each open parenthesis: the files that satisfy the part so far. */
        private final long[] running;
        private final boolean[] negated;
        private int open;

        RuleJudge(FileTable files, GroupTable groups, StackTable stacks, Album[] albums) {
            this.files = files;
            this.groups = groups;
            this.stacks = stacks;
            this.albums = albums;
            ended = new long[MAX_OPEN + 1];
            running = new long[MAX_OPEN + 1];
            negated = new boolean[MAX_OPEN + 1];
        }

        /** The text must be a rule. */
        long filesFor(RuleText rule) {
            open = 0;
            beginLevel();
            for (int position = 0; position < rule.length(); position++) {
                char character = rule.at(position);
                if (character >= 'a' && character <= 'z') {
                    take(condition(rule, position));
                } else {
                    operate(character);
                }
            }
            return ended[0] | running[0];
        }

        /** "&" does nothing, nor does what has been read with the letter of its condition. */
        private void operate(char character) {
            switch (character) {
                case '!':
                    negated[open] = !negated[open];
                    break;
                case '|':
                    ended[open] |= running[open];
                    running[open] = files.all();
                    break;
                case '(':
                    openLevel();
                    break;
                case ')':
                    closeLevel();
                    break;
                default:
                    break;
            }
        }

        private void openLevel() {
            if (open < MAX_OPEN) {
                open++;
                beginLevel();
            }
        }

        private void closeLevel() {
            if (open > 0) {
                long inner = ended[open] | running[open];
                open--;
                take(inner);
            }
        }

        private void beginLevel() {
            ended[open] = 0;
            running[open] = files.all();
            negated[open] = false;
        }

        /** Ends an item: its files stay, or with an odd number of "!" all others. */
        private void take(long item) {
            running[open] &= negated[open] ? ~item : item;
            negated[open] = false;
        }

        private long condition(RuleText rule, int position) {
            switch (rule.at(position)) {
                case 't':
                    return tagged(rule.numberAt(position + 1));
                case 'a':
                    return membersOf(rule.numberAt(position + 1));
                case 's':
                    return stacks.stacked();
                case 'v':
                    return stacks.covers();
                case 'u':
                    return groups.duplicates();
                case 'b':
                    return groups.keepers();
                default:
                    return comparing(rule, position);
            }
        }

        private long tagged(int tag) {
            long found = 0;
            for (int file = 0; file < MAX_FILES; file++) {
                if (holds(files.all(), file) && (files.settledValue(file, TAGS) >>> tag & 1) == 1) {
                    found |= only(file);
                }
            }
            return found;
        }

        private long membersOf(int album) {
            return isWithin(album, 0, MAX_ALBUMS - 1) ? albums[album].members() : 0;
        }

        private long comparing(RuleText rule, int position) {
            int field = RuleText.fieldNamed(rule.at(position));
            if (field == NONE) {
                return 0;
            }
            char sign = rule.at(position + 1);
            int number = rule.numberAt(position + 2);
            long found = 0;
            for (int file = 0; file < MAX_FILES; file++) {
                int value = files.settledValue(file, field);
                if (holds(files.all(), file) && agrees(value, sign, number)) {
                    found |= only(file);
                }
            }
            return found;
        }

        private static boolean agrees(int value, char sign, int number) {
            if (value == NONE) {
                return false;
            }
            switch (sign) {
                case '<':
                    return value < number;
                case '=':
                    return value == number;
                case '>':
                    return value > number;
                default:
                    return true;
            }
        }
    }

    /** A place for an album, used again when an album has been removed. */
    private static final class Album {
        private final RuleText rule;
        private boolean exists;
        private long members;
        private int sortField;
        private boolean descending;
        private int joined;
        private int left;

        Album() {
            rule = new RuleText();
        }

        boolean exists() {
            return exists;
        }

        RuleText rule() {
            return rule;
        }

        long members() {
            return members;
        }

        int joined() {
            return joined;
        }

        int left() {
            return left;
        }

        int sortField() {
            return sortField;
        }

        boolean isDescending() {
            return descending;
        }

        int sortCode() {
            return 10 * sortField + (descending ? 1 : 0);
        }

        boolean names(int album) {
            return rule.names(album);
        }

        void begin(RuleText text) {
            exists = true;
            members = 0;
            joined = 0;
            left = 0;
            sort(RATING, true);
            follow(text);
        }

        void end() {
            exists = false;
        }

        void follow(RuleText text) {
            rule.copy(text);
        }

        void sort(int field, boolean down) {
            sortField = field;
            descending = down;
        }

        /** Takes these files as its members, and tells the journal what joins and leaves. */
        void become(long now, int number, Journal journal) {
            long changed = members ^ now;
            for (int file = 0; file < MAX_FILES; file++) {
                if (holds(changed, file)) {
                    boolean joins = holds(now, file);
                    journal.note(number, file, joins);
                    joined += joins ? 1 : 0;
                    left += joins ? 0 : 1;
                }
            }
            members = now;
        }
    }

    /** Puts the files of an album in order, and hides those that collapsed stacks hide. */
    private static final class View {
        private final FileTable files;
        private final StackTable stacks;

        View(FileTable files, StackTable stacks) {
            this.files = files;
            this.stacks = stacks;
        }

        long shown(Album album) {
            long shown = album.members();
            for (int stack = 0; stack < MAX_STACKS; stack++) {
                if (stacks.has(stack) && stacks.isCollapsed(stack)) {
                    shown = stacks.withoutHidden(stack, shown);
                }
            }
            return shown;
        }

        /** The file at a place, or NONE if the view is not so long. */
        int fileAt(Album album, int place) {
            long shown = shown(album);
            for (int file = 0; file < MAX_FILES; file++) {
                if (holds(shown, file) && placeOf(album, shown, file) == place) {
                    return file;
                }
            }
            return NONE;
        }

        private int placeOf(Album album, long shown, int file) {
            int before = 0;
            for (int other = 0; other < MAX_FILES; other++) {
                if (holds(shown, other) && comesBefore(album, other, file)) {
                    before++;
                }
            }
            return before;
        }

        private boolean comesBefore(Album album, int file, int other) {
            int value = files.settledValue(file, album.sortField());
            int otherValue = files.settledValue(other, album.sortField());
            if (value == otherValue) {
                return file < other;
            }
            if (value == NONE || otherValue == NONE) {
                return otherValue == NONE;
            }
            return album.isDescending() ? value > otherValue : value < otherValue;
        }
    }

    /** The latest entries, in rows that are written round and round. */
    private static final class Journal {
        private final int[] albums;
        private final int[] files;
        private final boolean[] joins;
        private int length;
        private int latest;

        Journal() {
            albums = new int[MAX_ENTRIES];
            files = new int[MAX_ENTRIES];
            joins = new boolean[MAX_ENTRIES];
        }

        int length() {
            return length;
        }

        void note(int album, int file, boolean hasJoined) {
            latest = (latest + 1) % MAX_ENTRIES;
            albums[latest] = album;
            files[latest] = file;
            joins[latest] = hasJoined;
            length = Math.min(length + 1, MAX_ENTRIES);
        }

        int album(int index) {
            return albums[row(index)];
        }

        int file(int index) {
            return files[row(index)];
        }

        boolean hasJoined(int index) {
            return joins[row(index)];
        }

        private int row(int index) {
            return Math.floorMod(latest - index, MAX_ENTRIES);
        }
    }
}
