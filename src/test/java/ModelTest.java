/** All promises: runs of mixed calls, each answered by MediaCatalog and by PlainCatalog. */
final class ModelTest {
    private static final int RUNS = 1500;
    private static final int CALLS = 512;
    private static final String[] CONDITIONS = {"s", "v", "u", "b", "k?", "r?", "y?", "c?", "d?", "k=1", "r>2",
        "r<4", "r=5", "r=0", "y<2000", "y=1999", "y>1950", "c>10", "c=00007", "d<99999", "d>5000", "k<2"};
    private static final String RULE_CHARACTERS = "kryc dtasvub<=>?()!&|0123456789";

    private long seed;
    private final MediaCatalog asked = new MediaCatalog();
    private final PlainCatalog plain = new PlainCatalog();
    private final int manyFiles;
    private final int digests;
    private int calls = 0;

    private ModelTest(int run) {
        seed = run * 7919L + 17;
        manyFiles = 4 + run % 40;
        digests = run % 3 == 0 ? 3 : 12;
    }

    public static void main(String[] args) {
        for (int run = 0; run < RUNS; run++) {
            new ModelTest(run).play();
        }
        Due.end();
    }

    /** The same numbers in every run of the test, without a random source. */
    private int below(int bound) {
        seed = seed * 6364136223846793005L + 1442695040888963407L;
        return (int) ((seed >>> 33) % bound);
    }

    /** Mostly a number from the range, sometimes one just outside or far away. */
    private int near(int least, int greatest) {
        switch (below(40)) {
            case 0:
                return least - 1;
            case 1:
                return greatest + 1;
            case 2:
                return least;
            case 3:
                return greatest;
            case 4:
                return below(2) == 0 ? Integer.MIN_VALUE : Integer.MAX_VALUE;
            default:
                return least + below(greatest - least + 1);
        }
    }

    private int file() {
        return below(30) == 0 ? near(0, 39) : below(manyFiles);
    }

    private int stack() {
        return below(10) == 0 ? near(0, 9) : below(4);
    }

    private int album() {
        return below(10) == 0 ? near(0, 7) : below(5);
    }

    private void play() {
        int first = Math.min(manyFiles, 40) - below(4);
        for (int file = 0; file < first; file++) {
            add(below(digests), 1 + below(1000));
        }
        while (calls < CALLS) {
            step();
        }
    }

    private void is(String call, int answer, int due) {
        calls++;
        Due.is(call + " (call " + calls + ")", answer, due);
    }

    private void step() {
        switch (below(20)) {
            case 0:
            case 1:
            case 2:
            case 3:
                values();
                break;
            case 4:
            case 5:
            case 6:
                rule();
                break;
            case 7:
            case 8:
            case 9:
                albums();
                break;
            case 10:
            case 11:
                stacks();
                break;
            case 12:
            case 13:
                files();
                break;
            default:
                questions();
                break;
        }
    }

    private void add(int digest, int size) {
        is("add", asked.add(digest, size), plain.add(digest, size));
    }

    private void values() {
        int file = file();
        int source = below(40) == 0 ? near(0, 2) : below(3);
        int field = below(40) == 0 ? near(0, 5) : below(3) == 0 ? 1 : below(6);
        int[] least = {0, 0, 1900, 0, 0, 0};
        int[] greatest = {2, 5, 2100, 20, 9999, 1023};
        if (below(4) == 0) {
            is("clearValue", asked.clearValue(file, source, field), plain.clearValue(file, source, field));
            return;
        }
        int value = field >= 0 && field < 6 ? near(least[field], greatest[field]) : 1;
        if (field == 2 && below(2) == 0) {
            value = 1998 + below(4);
        }
        is("setValue", asked.setValue(file, source, field, value), plain.setValue(file, source, field, value));
    }

    private void files() {
        int file = file();
        switch (below(6)) {
            case 0:
                add(near(0, 9999), near(1, 100000));
                break;
            case 1:
                add(below(digests), 1 + below(1000));
                break;
            case 2:
                is("remove", asked.remove(file), plain.remove(file));
                break;
            case 3:
                int digest = below(20) == 0 ? near(0, 9999) : below(digests);
                is("setDigest", asked.setDigest(file, digest), plain.setDigest(file, digest));
                break;
            case 4:
                if (below(4) == 0) {
                    is("merge", asked.merge(file), plain.merge(file));
                }
                break;
            default:
                int first = near(0, 2);
                int second = near(0, 2);
                int third = below(2) == 0 ? 3 - first - second : near(0, 2);
                is("setOrder", asked.setOrder(first, second, third), plain.setOrder(first, second, third));
                break;
        }
    }

    private void stacks() {
        int stack = stack();
        int file = file();
        int other = file();
        switch (below(7)) {
            case 0:
            case 1:
                is("stack", asked.stack(file, other), plain.stack(file, other));
                break;
            case 2:
            case 3:
                int place = below(3) == 0 ? near(0, 8) : below(3);
                is("putInto", asked.putInto(stack, file, place), plain.putInto(stack, file, place));
                break;
            case 4:
                if (below(2) == 0) {
                    is("takeOut", asked.takeOut(file), plain.takeOut(file));
                }
                break;
            case 5:
                int home = plain.stackOf(file);
                int where = home >= 0 && below(3) > 0 ? home : stack;
                int chosen = below(4) == 0 ? -1 : below(20) == 0 ? -2 : file;
                is("chooseCover", asked.chooseCover(where, chosen), plain.chooseCover(where, chosen));
                break;
            default:
                int on = below(10) == 0 ? near(0, 1) : below(4) == 0 ? 0 : 1;
                is("collapse", asked.collapse(stack, on), plain.collapse(stack, on));
                break;
        }
    }

    private String condition() {
        switch (below(5)) {
            case 0:
                return "t" + below(10);
            case 1:
                return "a" + (below(6) == 0 ? below(10) : below(3));
            default:
                return CONDITIONS[below(CONDITIONS.length)];
        }
    }

    private String item(int depth) {
        String item = below(3) == 0 && depth < 4 ? "(" + ruleText(depth + 1) + ")" : condition();
        for (int signs = below(3) == 0 ? 1 + below(3) : 0; signs > 0; signs--) {
            item = "!" + item;
        }
        return item;
    }

    private String ruleText(int depth) {
        StringBuilder rule = new StringBuilder(item(depth));
        for (int more = below(3); more > 0; more--) {
            rule.append(below(2) == 0 ? '&' : '|').append(item(depth));
        }
        return rule.toString();
    }

    private void rule() {
        String rule = ruleText(0);
        if (below(8) == 0) {
            rule = "(".repeat(below(12)) + rule + ")".repeat(below(12));
        }
        if (rule.length() > 24 && below(10) > 0) {
            rule = condition();
        }
        if (below(10) > 0) {
            is("clearRule", asked.clearRule(), plain.clearRule());
        }
        int changed = below(5) == 0 ? below(rule.length()) : -1;
        for (int i = 0; i < rule.length() && calls < CALLS - 3; i++) {
            int character = i == changed ? RULE_CHARACTERS.charAt(below(RULE_CHARACTERS.length())) : rule.charAt(i);
            is("type", asked.type(character), plain.type(character));
            if (below(10) == 0) {
                is("fault", asked.fault(), plain.fault());
            }
        }
        is("fault", asked.fault(), plain.fault());
        is("select", asked.select(), plain.select());
    }

    private void albums() {
        int album = album();
        switch (below(6)) {
            case 0:
            case 1:
                is("makeAlbum", asked.makeAlbum(), plain.makeAlbum());
                break;
            case 2:
                if (below(3) == 0) {
                    is("removeAlbum", asked.removeAlbum(album), plain.removeAlbum(album));
                }
                break;
            case 3:
                is("changeRule", asked.changeRule(album), plain.changeRule(album));
                break;
            default:
                int field = below(10) == 0 ? near(0, 4) : below(5);
                int down = below(10) == 0 ? near(0, 1) : below(2);
                is("sortBy", asked.sortBy(album, field, down), plain.sortBy(album, field, down));
                break;
        }
    }

    private void questions() {
        int file = file();
        int stack = stack();
        int album = album();
        switch (below(4)) {
            case 0:
                askFile(file);
                break;
            case 1:
                askStack(stack, near(0, 8));
                break;
            case 2:
                askAlbum(album, file);
                break;
            default:
                askAll();
                break;
        }
    }

    private void askFile(int file) {
        int field = near(0, 7);
        is("value", asked.value(file, field), plain.value(file, field));
        is("sourceOf", asked.sourceOf(file, field), plain.sourceOf(file, field));
        is("keeperOf", asked.keeperOf(file), plain.keeperOf(file));
        is("groupSize", asked.groupSize(file), plain.groupSize(file));
        is("stackOf", asked.stackOf(file), plain.stackOf(file));
        is("satisfies", asked.satisfies(file), plain.satisfies(file));
    }

    private void askStack(int stack, int place) {
        is("coverOf", asked.coverOf(stack), plain.coverOf(stack));
        is("stackAt", asked.stackAt(stack, place), plain.stackAt(stack, place));
        is("stackAt", asked.stackAt(stack, 1), plain.stackAt(stack, 1));
    }

    private void askAlbum(int album, int file) {
        int place = below(3) == 0 ? near(0, 39) : below(6);
        int what = near(0, 1);
        is("albumSize", asked.albumSize(album), plain.albumSize(album));
        is("isIn", asked.isIn(album, file), plain.isIn(album, file));
        is("viewSize", asked.viewSize(album), plain.viewSize(album));
        is("viewAt", asked.viewAt(album, place), plain.viewAt(album, place));
        is("viewAt", asked.viewAt(album, place / 2), plain.viewAt(album, place / 2));
        is("turnover", asked.turnover(album, what), plain.turnover(album, what));
    }

    private void askAll() {
        int what = near(0, 4);
        int index = below(3) == 0 ? near(0, 24) : below(6);
        is("fileCount", asked.fileCount(), plain.fileCount());
        is("wasted", asked.wasted(), plain.wasted());
        is("journalSize", asked.journalSize(), plain.journalSize());
        is("journalAt", asked.journalAt(index, 0), plain.journalAt(index, 0));
        is("journalAt", asked.journalAt(index, 1), plain.journalAt(index, 1));
        is("journalAt", asked.journalAt(index, what), plain.journalAt(index, what));
        is("count", asked.count(what), plain.count(what));
    }
}
