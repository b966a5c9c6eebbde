import java.util.ArrayList;
import java.util.List;
import java.util.TreeMap;
import java.util.TreeSet;

/**
 * The document once more, written as slowly and differently as it can be: everything that follows
 * from something else is worked out again for every question. ModelTest compares both.
 */
final class PlainCatalog {
    private static final int[] LEAST = {0, 0, 1900, 0, 0, 0};
    private static final int[] MOST = {2, 5, 2100, 20, 9999, 1023};

    private static final class Item {
        int digest;
        int size;
        final Integer[][] told = new Integer[3][6];
    }

    private static final class Pile {
        final List<Integer> files = new ArrayList<>();
        Integer chosen;
        boolean collapsed;
    }

    private static final class Shelf {
        String rule;
        TreeSet<Integer> files = new TreeSet<>();
        int field = 1;
        int down = 1;
        int[] moves = new int[2];
    }

    private final TreeMap<Integer, Item> items = new TreeMap<>();
    private final TreeMap<Integer, Pile> piles = new TreeMap<>();
    private final TreeMap<Integer, Shelf> shelves = new TreeMap<>();
    private final List<int[]> entries = new ArrayList<>();
    private int[] order = {0, 1, 2};
    private String text = "";
    private String parsed;
    private int at;

    private static int lowestFree(TreeMap<Integer, ?> taken) {
        int number = 0;
        while (taken.containsKey(number)) {
            number++;
        }
        return number;
    }

    private Integer told(int file, int field) {
        for (int source : order) {
            if (items.get(file).told[source][field] != null) {
                return items.get(file).told[source][field];
            }
        }
        return null;
    }

    private int toldOr(int file, int field, int other) {
        Integer value = told(file, field);
        return value == null ? other : value;
    }

    private int tagsOf(int file) {
        int tags = 0;
        for (int source = 0; source < 3; source++) {
            Integer more = items.get(file).told[source][5];
            tags |= more == null ? 0 : more;
        }
        return tags;
    }

    private void update() {
        for (int album : shelves.keySet()) {
            Shelf shelf = shelves.get(album);
            TreeSet<Integer> now = new TreeSet<>();
            for (int file : items.keySet()) {
                if (holds(shelf.rule, file)) {
                    now.add(file);
                }
            }
            for (int file = 0; file < 40; file++) {
                if (now.contains(file) != shelf.files.contains(file)) {
                    int joined = now.contains(file) ? 1 : 0;
                    entries.add(0, new int[] {album, file, joined});
                    shelf.moves[joined]++;
                }
            }
            shelf.files = now;
        }
        while (entries.size() > 24) {
            entries.remove(24);
        }
    }

    int add(int digest, int size) {
        if (digest < 0 || digest > 9999 || size < 1 || size > 100000) {
            return -1;
        }
        if (items.size() == 40) {
            return -3;
        }
        Item item = new Item();
        item.digest = digest;
        item.size = size;
        int file = lowestFree(items);
        items.put(file, item);
        update();
        return file;
    }

    int remove(int file) {
        if (!items.containsKey(file)) {
            return -1;
        }
        withdraw(file);
        items.remove(file);
        update();
        return items.size();
    }

    private void withdraw(int file) {
        int stack = home(file);
        if (stack < 0) {
            return;
        }
        Pile pile = piles.get(stack);
        pile.files.remove(Integer.valueOf(file));
        if (pile.chosen != null && pile.chosen == file) {
            pile.chosen = null;
        }
        if (pile.files.size() == 1) {
            piles.remove(stack);
        }
    }

    private int home(int file) {
        for (int stack : piles.keySet()) {
            if (piles.get(stack).files.contains(file)) {
                return stack;
            }
        }
        return -4;
    }

    int fileCount() {
        return items.size();
    }

    int setDigest(int file, int digest) {
        if (!items.containsKey(file) || digest < 0 || digest > 9999) {
            return -1;
        }
        int previous = items.get(file).digest;
        items.get(file).digest = digest;
        update();
        return previous;
    }

    private boolean hasSlot(int file, int source, int field) {
        return items.containsKey(file) && source >= 0 && source < 3 && field >= 0 && field < 6;
    }

    int setValue(int file, int source, int field, int value) {
        if (!hasSlot(file, source, field) || value < LEAST[field] || value > MOST[field]) {
            return -1;
        }
        Integer previous = items.get(file).told[source][field];
        items.get(file).told[source][field] = value;
        update();
        return previous == null ? -4 : previous;
    }

    int clearValue(int file, int source, int field) {
        if (!hasSlot(file, source, field)) {
            return -1;
        }
        Integer previous = items.get(file).told[source][field];
        items.get(file).told[source][field] = null;
        update();
        return previous == null ? -4 : previous;
    }

    int value(int file, int field) {
        if (!items.containsKey(file) || field < 0 || field > 7) {
            return -1;
        }
        if (field < 5) {
            return toldOr(file, field, -4);
        }
        return field == 5 ? tagsOf(file) : field == 6 ? items.get(file).digest : items.get(file).size;
    }

    int sourceOf(int file, int field) {
        if (!items.containsKey(file) || field < 0 || field > 4) {
            return -1;
        }
        for (int source : order) {
            if (items.get(file).told[source][field] != null) {
                return source;
            }
        }
        return -4;
    }

    int setOrder(int first, int second, int third) {
        TreeSet<Integer> all = new TreeSet<>(List.of(0, 1, 2));
        all.remove(first);
        all.remove(second);
        all.remove(third);
        if (!all.isEmpty()) {
            return -1;
        }
        int previous = 100 * order[0] + 10 * order[1] + order[2];
        order = new int[] {first, second, third};
        update();
        return previous;
    }

    private List<Integer> group(int file) {
        List<Integer> found = new ArrayList<>();
        for (int other : items.keySet()) {
            if (items.get(other).digest == items.get(file).digest) {
                found.add(other);
            }
        }
        return found;
    }

    private int keeper(int file) {
        List<Integer> group = new ArrayList<>(group(file));
        group.sort((a, b) -> {
            int byRating = Integer.compare(toldOr(b, 1, -1), toldOr(a, 1, -1));
            int byYear = Integer.compare(toldOr(a, 2, 9999), toldOr(b, 2, 9999));
            return byRating != 0 ? byRating : byYear != 0 ? byYear : Integer.compare(a, b);
        });
        return group.get(0);
    }

    int keeperOf(int file) {
        return items.containsKey(file) ? keeper(file) : -1;
    }

    int groupSize(int file) {
        return items.containsKey(file) ? group(file).size() : -1;
    }

    int wasted() {
        int sum = 0;
        for (int file : items.keySet()) {
            sum += keeper(file) == file ? 0 : items.get(file).size;
        }
        return sum;
    }

    int merge(int file) {
        if (!items.containsKey(file)) {
            return -1;
        }
        List<Integer> group = group(file);
        if (group.size() == 1) {
            return -2;
        }
        int keeper = keeper(file);
        for (int source = 0; source < 3; source++) {
            Integer[] mine = items.get(keeper).told[source];
            int tags = 0;
            boolean anyTags = false;
            for (int field = 0; field < 5; field++) {
                for (int i = 0; i < group.size() && mine[field] == null; i++) {
                    mine[field] = items.get(group.get(i)).told[source][field];
                }
            }
            for (int other : group) {
                Integer more = items.get(other).told[source][5];
                anyTags |= more != null;
                tags |= more == null ? 0 : more;
            }
            mine[5] = anyTags ? Integer.valueOf(tags) : null;
        }
        for (int other : group) {
            if (other != keeper) {
                withdraw(other);
                items.remove(other);
            }
        }
        update();
        return group.size() - 1;
    }

    int stack(int first, int second) {
        if (!items.containsKey(first) || !items.containsKey(second) || first == second) {
            return -1;
        }
        if (home(first) >= 0 || home(second) >= 0) {
            return -2;
        }
        if (piles.size() == 10) {
            return -3;
        }
        Pile pile = new Pile();
        pile.files.add(first);
        pile.files.add(second);
        int stack = lowestFree(piles);
        piles.put(stack, pile);
        update();
        return stack;
    }

    int putInto(int stack, int file, int place) {
        Pile pile = piles.get(stack);
        if (pile == null || !items.containsKey(file) || place < 0 || place > pile.files.size()) {
            return -1;
        }
        if (home(file) >= 0) {
            return -2;
        }
        if (pile.files.size() == 8) {
            return -3;
        }
        pile.files.add(place, file);
        update();
        return pile.files.size();
    }

    int takeOut(int file) {
        if (!items.containsKey(file)) {
            return -1;
        }
        int stack = home(file);
        if (stack < 0) {
            return -2;
        }
        withdraw(file);
        update();
        return piles.containsKey(stack) ? piles.get(stack).files.size() : 0;
    }

    int chooseCover(int stack, int file) {
        if (!piles.containsKey(stack) || (file != -1 && !items.containsKey(file))) {
            return -1;
        }
        if (file != -1 && home(file) != stack) {
            return -2;
        }
        piles.get(stack).chosen = file == -1 ? null : file;
        update();
        return cover(stack);
    }

    private int cover(int stack) {
        Pile pile = piles.get(stack);
        if (pile.chosen != null) {
            return pile.chosen;
        }
        int greatest = -1;
        for (int file : pile.files) {
            greatest = Math.max(greatest, toldOr(file, 1, -1));
        }
        for (int file : pile.files) {
            if (toldOr(file, 1, -1) == greatest) {
                return file;
            }
        }
        throw new IllegalStateException("a stack without files");
    }

    int collapse(int stack, int on) {
        if (!piles.containsKey(stack) || on < 0 || on > 1) {
            return -1;
        }
        boolean previous = piles.get(stack).collapsed;
        piles.get(stack).collapsed = on == 1;
        return previous ? 1 : 0;
    }

    int stackOf(int file) {
        return items.containsKey(file) ? home(file) : -1;
    }

    int coverOf(int stack) {
        return piles.containsKey(stack) ? cover(stack) : -1;
    }

    int stackAt(int stack, int place) {
        if (!piles.containsKey(stack) || place < 0) {
            return -1;
        }
        List<Integer> files = piles.get(stack).files;
        return place < files.size() ? files.get(place) : -4;
    }

    int type(int character) {
        if (character < 33 || character > 126) {
            return -1;
        }
        if (text.length() == 80) {
            return -3;
        }
        text += (char) character;
        return text.length();
    }

    int clearRule() {
        int previous = text.length();
        text = "";
        return previous;
    }

    int fault() {
        for (int length = 1; length <= text.length(); length++) {
            if (!isBeginning(text.substring(0, length))) {
                return length - 1;
            }
        }
        return isRule(text) ? -4 : text.length();
    }

    /** A text is the beginning of a rule if something short and then parentheses make it one. */
    private boolean isBeginning(String beginning) {
        String[] middles = {"", "s", "0", "?"};
        for (String middle : middles) {
            for (int closing = 0; closing <= 10; closing++) {
                if (isRule(beginning + middle + ")".repeat(closing))) {
                    return true;
                }
            }
        }
        return false;
    }

    private boolean isRule(String rule) {
        parsed = rule;
        at = 0;
        return parseRule(0) && at == rule.length();
    }

    private boolean skip(String characters) {
        if (at < parsed.length() && characters.indexOf(parsed.charAt(at)) >= 0) {
            at++;
            return true;
        }
        return false;
    }

    private boolean parseRule(int depth) {
        do {
            do {
                if (!parseItem(depth)) {
                    return false;
                }
            } while (skip("&"));
        } while (skip("|"));
        return true;
    }

    private boolean parseItem(int depth) {
        while (skip("!")) {
            continue;
        }
        if (skip("(")) {
            return depth < 10 && parseRule(depth + 1) && skip(")");
        }
        if (skip("svub")) {
            return true;
        }
        if (skip("ta")) {
            return skip("0123456789");
        }
        if (!skip("krycd")) {
            return false;
        }
        if (skip("?")) {
            return true;
        }
        if (!skip("<=>")) {
            return false;
        }
        int digits = 0;
        while (digits < 5 && skip("0123456789")) {
            digits++;
        }
        return digits > 0;
    }

    private boolean holds(String rule, int file) {
        parsed = rule;
        at = 0;
        return holdsRule(file);
    }

    private boolean holdsRule(int file) {
        boolean any = false;
        do {
            boolean all = true;
            do {
                all &= holdsItem(file);
            } while (skip("&"));
            any |= all;
        } while (skip("|"));
        return any;
    }

    private boolean holdsItem(int file) {
        if (skip("!")) {
            return !holdsItem(file);
        }
        if (skip("(")) {
            boolean inner = holdsRule(file);
            skip(")");
            return inner;
        }
        char letter = parsed.charAt(at++);
        switch (letter) {
            case 's':
                return home(file) >= 0;
            case 'v':
                return home(file) >= 0 && cover(home(file)) == file;
            case 'u':
                return group(file).size() >= 2;
            case 'b':
                return keeper(file) == file;
            case 't':
                return (tagsOf(file) & 1 << (parsed.charAt(at++) - '0')) != 0;
            case 'a':
                return shelves.get(parsed.charAt(at++) - '0').files.contains(file);
            default:
                return compares(told(file, "krycd".indexOf(letter)));
        }
    }

    private boolean compares(Integer value) {
        char sign = parsed.charAt(at++);
        int from = at;
        while (skip("0123456789")) {
            continue;
        }
        if (value == null || sign == '?') {
            return value != null;
        }
        int number = Integer.parseInt(parsed.substring(from, at));
        return sign == '<' ? value < number : sign == '=' ? value == number : value > number;
    }

    private boolean usable(int below) {
        if (!isRule(text)) {
            return false;
        }
        for (int album = 0; album <= 9; album++) {
            if (text.contains("a" + album) && (album >= below || !shelves.containsKey(album))) {
                return false;
            }
        }
        return true;
    }

    int satisfies(int file) {
        if (!items.containsKey(file)) {
            return -1;
        }
        return !usable(8) ? -2 : holds(text, file) ? 1 : 0;
    }

    int select() {
        if (!usable(8)) {
            return -2;
        }
        int number = 0;
        for (int file : items.keySet()) {
            number += holds(text, file) ? 1 : 0;
        }
        return number;
    }

    int makeAlbum() {
        int album = lowestFree(shelves);
        if (!usable(album)) {
            return -2;
        }
        if (shelves.size() == 8) {
            return -3;
        }
        Shelf shelf = new Shelf();
        shelf.rule = text;
        shelves.put(album, shelf);
        update();
        return album;
    }

    int removeAlbum(int album) {
        if (!shelves.containsKey(album)) {
            return -1;
        }
        for (Shelf shelf : shelves.values()) {
            if (shelf.rule.contains("a" + album)) {
                return -2;
            }
        }
        shelves.remove(album);
        return shelves.size();
    }

    int changeRule(int album) {
        if (!shelves.containsKey(album)) {
            return -1;
        }
        if (!usable(album)) {
            return -2;
        }
        shelves.get(album).rule = text;
        update();
        return shelves.get(album).files.size();
    }

    int albumSize(int album) {
        return shelves.containsKey(album) ? shelves.get(album).files.size() : -1;
    }

    int isIn(int album, int file) {
        if (!shelves.containsKey(album) || !items.containsKey(file)) {
            return -1;
        }
        return shelves.get(album).files.contains(file) ? 1 : 0;
    }

    int sortBy(int album, int field, int down) {
        if (!shelves.containsKey(album) || field < 0 || field > 4 || down < 0 || down > 1) {
            return -1;
        }
        Shelf shelf = shelves.get(album);
        int previous = 10 * shelf.field + shelf.down;
        shelf.field = field;
        shelf.down = down;
        return previous;
    }

    private List<Integer> view(Shelf shelf) {
        List<Integer> shown = new ArrayList<>();
        for (int file : shelf.files) {
            if (isShown(shelf, file)) {
                shown.add(file);
            }
        }
        int last = shelf.down == 1 ? -1 : Integer.MAX_VALUE;
        shown.sort((a, b) -> {
            int order = Integer.compare(toldOr(a, shelf.field, last), toldOr(b, shelf.field, last));
            return order != 0 ? (shelf.down == 1 ? -order : order) : Integer.compare(a, b);
        });
        return shown;
    }

    private boolean isShown(Shelf shelf, int file) {
        int stack = home(file);
        if (stack < 0 || !piles.get(stack).collapsed) {
            return true;
        }
        if (shelf.files.contains(cover(stack))) {
            return file == cover(stack);
        }
        List<Integer> left = new ArrayList<>(piles.get(stack).files);
        left.retainAll(shelf.files);
        return left.get(0) == file;
    }

    int viewSize(int album) {
        return shelves.containsKey(album) ? view(shelves.get(album)).size() : -1;
    }

    int viewAt(int album, int place) {
        if (!shelves.containsKey(album) || place < 0) {
            return -1;
        }
        List<Integer> view = view(shelves.get(album));
        return place < view.size() ? view.get(place) : -4;
    }

    int journalSize() {
        return entries.size();
    }

    int journalAt(int index, int what) {
        if (index < 0 || what < 0 || what > 2) {
            return -1;
        }
        return index < entries.size() ? entries.get(index)[what] : -4;
    }

    int turnover(int album, int what) {
        return !shelves.containsKey(album) || what < 0 || what > 1 ? -1 : shelves.get(album).moves[what];
    }

    int count(int what) {
        int groups = 0;
        int stacked = 0;
        int sizes = 0;
        for (int file : items.keySet()) {
            groups += group(file).size() > 1 && keeper(file) == file ? 1 : 0;
            stacked += home(file) >= 0 ? 1 : 0;
            sizes += items.get(file).size;
        }
        int[] answers = {piles.size(), shelves.size(), groups, stacked, sizes};
        return what < 0 || what > 4 ? -1 : answers[what];
    }
}
