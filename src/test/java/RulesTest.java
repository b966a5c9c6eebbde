/** Promises 23 to 27: the rule text. */
final class RulesTest {
    private RulesTest() {
    }

    public static void main(String[] args) {
        type();
        clearRule();
        faultOfRules();
        faultInside();
        faultAtTheEnd();
        parentheses();
        longTexts();
        nextCharacters();
        manySigns();
        endsOfRanges();
        comparisons();
        noValue();
        otherConditions();
        stackConditions();
        operators();
        albumsInRules();
        satisfiesErrors();
        followsTheState();
        Due.end();
    }

    private static String times(String text, int times) {
        return text.repeat(times);
    }

    private static void fault(String rule, int due) {
        MediaCatalog x = new MediaCatalog();
        Due.typed(x, rule);
        Due.is("fault of " + rule, x.fault(), due);
        Due.is("select with " + rule, x.select(), due == Due.MISSING ? 0 : Due.IMPOSSIBLE);
    }

    private static void type() {
        MediaCatalog x = new MediaCatalog();
        Due.is("type: below", x.type(32), Due.INVALID);
        Due.is("type: above", x.type(127), Due.INVALID);
        Due.is("type: negative", x.type(-1), Due.INVALID);
        Due.is("type: like s, but beyond a character", x.type(65536 + 's'), Due.INVALID);
        Due.is("type: least", x.type(33), 1);
        Due.is("type: greatest", x.type(126), 2);
        for (int length = 3; length <= 80; length++) {
            Due.is("type: length", x.type('!'), length);
        }
        Due.is("type: 81st", x.type('!'), Due.LIMIT);
        Due.is("type: 81st, below", x.type(32), Due.INVALID);
        Due.is("type: the text stays", x.clearRule(), 80);
    }

    private static void clearRule() {
        MediaCatalog x = new MediaCatalog();
        Due.is("clearRule: empty", x.clearRule(), 0);
        Due.typed(x, "k?");
        Due.is("clearRule: length", x.clearRule(), 2);
        Due.is("clearRule: twice", x.clearRule(), 0);
        Due.is("clearRule: fault", x.fault(), 0);
        Due.is("clearRule: first again", x.type('s'), 1);
        Due.is("clearRule: a rule", x.fault(), Due.MISSING);
    }

    private static void faultOfRules() {
        String[] rules = {"s", "v", "u", "b", "k?", "r<0", "y=12345", "c>9", "d?", "t0", "t9",
            "!s", "!!!s", "(s)", "((s))", "!(s)", "!(!s)", "s&v", "s|v", "s&v|u&b", "(s|v)&(u|b)", "!(s&!v|u)",
            "k=1&r>2|y<2000&t3", "(k=1)", "k=00001", "s&(k?|(r?))"};
        for (String rule : rules) {
            fault(rule, Due.MISSING);
        }
        for (int album = 0; album <= 9; album++) {
            MediaCatalog x = new MediaCatalog();
            Due.typed(x, "a" + album);
            Due.is("fault of a" + album, x.fault(), Due.MISSING);
            Due.is("select with a" + album, x.select(), Due.IMPOSSIBLE);
        }
    }

    private static void faultInside() {
        fault("x", 0);
        fault("&s", 0);
        fault("|s", 0);
        fault(")", 0);
        fault("1", 0);
        fault("?", 0);
        fault("S", 0);
        fault("ss", 1);
        fault("s!", 1);
        fault("s(", 1);
        fault("s)", 1);
        fault("s1", 1);
        fault("s&&v", 2);
        fault("s||v", 2);
        fault("s&|v", 2);
        fault("s&)", 2);
        fault("()", 1);
        fault("(s))", 3);
        fault("(s)s", 3);
        fault("(s)(s)", 3);
        fault("!&", 1);
        fault("!)", 1);
        fault("kk", 1);
        fault("k!1", 1);
        fault("k1", 1);
        fault("k<>1", 2);
        fault("k<<1", 2);
        fault("k<=1", 2);
        fault("k<?", 2);
        fault("k<&", 2);
        fault("k<)", 2);
        fault("(k<)", 3);
        fault("k?1", 2);
        fault("k??", 2);
        fault("k=123456", 7);
        fault("k=000000", 7);
        fault("k=12<3", 4);
        fault("k=1s", 3);
        fault("k=1(", 3);
        fault("k=1!", 3);
        fault("tt", 1);
        fault("ta", 1);
        fault("t?", 1);
        fault("t12", 2);
        fault("a12", 2);
        fault("a!", 1);
        fault("t1?", 2);
        fault("s~v~", 1);
    }

    private static void faultAtTheEnd() {
        String[] beginnings = {"", "!", "!!", "(", "((", "k", "r", "y", "c", "d", "k<", "r=", "y>", "t", "a",
            "s&", "s|", "(s", "(s&", "((s)", "(k=1", "(k=12345", "s&!", "s|("};
        for (String beginning : beginnings) {
            fault(beginning, beginning.length());
        }
    }

    private static void parentheses() {
        fault(times("(", 10) + "s" + times(")", 10), Due.MISSING);
        fault(times("(", 11), 10);
        fault(times("(", 11) + "s" + times(")", 11), 10);
        fault(times("!(", 10) + "!(", 21);
        fault(times("(", 10) + "s)&(s" + times(")", 10), Due.MISSING);
        fault(times("(", 10) + "s)&((s", 14);
        fault(times("(", 10) + "s" + times(")", 11), 21);
        fault(times("(", 10) + "s" + times(")", 9), 20);
        fault("(s)" + times("&(s)", 15), Due.MISSING);
    }

    private static void longTexts() {
        fault(times("!", 80), 80);
        fault(times("!", 79) + "s", Due.MISSING);
        fault(times("s&", 40), 80);
        fault("!" + times("s&", 39) + "s", Due.MISSING);
        MediaCatalog x = Due.catalogOf(1);
        Due.typed(x, times("!", 78) + "b");
        Due.is("even number of !", x.select(), 1);
        Due.rule(x, times("!", 79) + "b");
        Due.is("odd number of !", x.select(), 0);
    }

    private static void selects(MediaCatalog x, String rule, int due) {
        Due.rule(x, rule);
        int number = 0;
        for (int file = 0; file < 40; file++) {
            number += x.satisfies(file) == 1 ? 1 : 0;
        }
        Due.is("satisfies " + rule, number, due);
        Due.is("select " + rule, x.select(), due);
    }

    private static void comparisons() {
        char[] letters = {'k', 'r', 'y', 'c', 'd'};
        int[] low = {0, 2, 1950, 5, 9000};
        for (int field = 0; field <= 4; field++) {
            MediaCatalog x = Due.catalogOf(4);
            for (int file = 0; file < 3; file++) {
                x.setValue(file, file, field, low[field] + file);
            }
            String letter = String.valueOf(letters[field]);
            int middle = low[field] + 1;
            selects(x, letter + "<" + middle, 1);
            selects(x, letter + "=" + middle, 1);
            selects(x, letter + ">" + middle, 1);
            selects(x, letter + "<" + low[field], 0);
            selects(x, letter + ">" + low[field], 2);
            selects(x, letter + "<99999", 3);
            selects(x, letter + ">99999", 0);
            selects(x, letter + "=99999", 0);
            selects(x, letter + "?", 3);
            selects(x, "!" + letter + "?", 1);
            selects(x, "!" + letter + "<99999", 1);
            selects(x, "!" + letter + "=" + middle, 3);
        }
    }

    private static void noValue() {
        MediaCatalog x = Due.catalogOf(2);
        x.setValue(0, 0, 1, 0);
        selects(x, "r=0", 1);
        selects(x, "r<1", 1);
        selects(x, "r>0", 0);
        selects(x, "r=00000", 1);
        x.setValue(0, 0, 1, 5);
        selects(x, "r=00005", 1);
        selects(x, "r<5", 0);
        selects(x, "r<50", 1);
        x.setValue(0, 0, 4, 0);
        selects(x, "d<1", 1);
        selects(x, "d>10", 0);
    }

    private static void otherConditions() {
        MediaCatalog x = Due.catalogOf(4);
        for (int tag = 0; tag <= 9; tag++) {
            selects(x, "t" + tag, 0);
            x.setValue(0, tag % 3, 5, 1 << tag);
            selects(x, "t" + tag, 1);
            x.clearValue(0, tag % 3, 5);
        }
        selects(x, "u", 0);
        selects(x, "b", 4);
        x.setDigest(1, 100);
        x.setDigest(2, 100);
        x.setValue(2, 0, 1, 0);
        selects(x, "u", 3);
        selects(x, "b", 2);
        selects(x, "u&b", 1);
        selects(x, "!u&b", 1);
        Due.is("b: the keeper", x.satisfies(3), 1);
        selects(x, "b&u", 1);
        Due.is("b&u: the keeper of the group", x.satisfies(2), 1);
    }

    private static void stackConditions() {
        MediaCatalog x = Due.catalogOf(5);
        selects(x, "s", 0);
        selects(x, "v", 0);
        x.stack(3, 1);
        x.putInto(0, 4, 0);
        x.stack(0, 2);
        selects(x, "s", 5);
        selects(x, "v", 2);
        Due.is("v: the first", x.satisfies(4), 1);
        Due.is("v: another", x.satisfies(3), 0);
        x.chooseCover(0, 1);
        Due.is("v: chosen", x.satisfies(1), 1);
        Due.is("v: no more", x.satisfies(4), 0);
        x.setValue(2, 0, 1, 2);
        Due.is("v: greatest rating", x.satisfies(2), 1);
        x.takeOut(0);
        selects(x, "s", 3);
        selects(x, "v", 1);
        selects(x, "!s", 2);
    }

    private static void operators() {
        MediaCatalog x = Due.catalogOf(8);
        for (int file = 0; file < 8; file++) {
            x.setValue(file, 0, 5, file);
        }
        selects(x, "t0&t1", 2);
        selects(x, "t0|t1", 6);
        selects(x, "t0&t1|t2", 5);
        selects(x, "t0|t1|t2", 7);
        selects(x, "t0&t1&t2", 1);
        selects(x, "t0|t1&t2|t2&!t1", 6);
        selects(x, "t0|t1&t2", 5);
        selects(x, "(t0|t1)&t2", 3);
        selects(x, "t2&(t0|t1)", 3);
        selects(x, "!t0&t1", 2);
        selects(x, "!(t0&t1)", 6);
        selects(x, "!(t0|t1)", 2);
        selects(x, "!!t0", 4);
        selects(x, "!!!t0", 4);
        selects(x, "!(!(t0))", 4);
        selects(x, "!t0|!t1", 6);
        selects(x, "t0&!t0", 0);
        selects(x, "t0|!t0", 8);
        selects(x, "t0|t0&!t0", 4);
        selects(x, "!(t0)&t1", 2);
        selects(x, "!(!t0&!(t1|!t2))", 7);
        selects(x, "((t0)|(t1))&((t2))", 3);
        selects(x, times("!(", 10) + "t0" + times(")", 10) + "&t1", 2);
        selects(x, times("(t0|", 10) + "t1" + times(")", 10), 6);
        selects(x, times("(t1&", 10) + "t0" + times(")", 10) + "|t2", 5);
    }

    private static void albumsInRules() {
        MediaCatalog x = Due.catalogOf(4);
        x.setValue(1, 0, 1, 4);
        x.setValue(2, 0, 1, 5);
        Due.rule(x, "a0");
        Due.is("a0: fault", x.fault(), Due.MISSING);
        Due.is("a0: does not exist", x.select(), Due.IMPOSSIBLE);
        Due.is("a0: satisfies", x.satisfies(0), Due.IMPOSSIBLE);
        Due.album(x, "r>3");
        selects(x, "a0", 2);
        selects(x, "!a0", 2);
        selects(x, "a0&r=5", 1);
        Due.rule(x, "b|a1");
        Due.is("a1: does not exist, though b holds", x.satisfies(0), Due.IMPOSSIBLE);
        Due.rule(x, "!b&a9");
        Due.is("a9: never exists", x.select(), Due.IMPOSSIBLE);
        Due.rule(x, "a0|a8");
        Due.is("a8: never exists", x.satisfies(1), Due.IMPOSSIBLE);
        Due.album(x, "a0&r=4");
        selects(x, "a1", 1);
        Due.is("a1: its file", x.satisfies(1), 1);
        Due.rule(x, "r=5");
        for (int album = 2; album < 8; album++) {
            x.makeAlbum();
        }
        selects(x, "a7", 1);
        selects(x, "!a7&a0", 1);
        x.removeAlbum(1);
        Due.rule(x, "a1");
        Due.is("a1: removed", x.select(), Due.IMPOSSIBLE);
    }

    private static void satisfiesErrors() {
        MediaCatalog x = Due.catalogOf(1);
        Due.is("satisfies: empty text", x.satisfies(0), Due.IMPOSSIBLE);
        Due.is("select: empty text", x.select(), Due.IMPOSSIBLE);
        Due.is("satisfies: no file and no rule", x.satisfies(1), Due.INVALID);
        Due.rule(x, "b");
        Due.is("satisfies: no file", x.satisfies(1), Due.INVALID);
        Due.is("satisfies: negative", x.satisfies(-1), Due.INVALID);
        Due.is("satisfies: beyond", x.satisfies(40), Due.INVALID);
        Due.is("satisfies: yes", x.satisfies(0), 1);
        Due.rule(x, "!b");
        Due.is("satisfies: no", x.satisfies(0), 0);
        Due.rule(x, "b&");
        Due.is("satisfies: a beginning only", x.satisfies(0), Due.IMPOSSIBLE);
    }

    private static void followsTheState() {
        MediaCatalog x = Due.catalogOf(2);
        Due.rule(x, "r=3");
        Due.is("select: none yet", x.select(), 0);
        x.setValue(1, 1, 1, 3);
        Due.is("select: value set", x.select(), 1);
        x.setValue(1, 0, 1, 2);
        Due.is("select: other source first", x.select(), 0);
        x.setOrder(1, 0, 2);
        Due.is("select: other order", x.select(), 1);
        x.remove(1);
        Due.is("select: removed", x.select(), 0);
        x.add(1, 1);
        Due.is("select: a new file with its number", x.satisfies(1), 0);
    }

    /** For each beginning of a rule: of all characters, exactly these can be next. */
    private static void nextCharacters() {
        String item = "krycdtasvub(!";
        String digits = "0123456789";
        String[][] next = {{"", item}, {"!", item}, {"!!", item}, {"(", item}, {"s&", item}, {"s|", item},
            {"(s&", item}, {"k=1|", item}, {times("(", 9), item}, {times("(", 10), item.replace("(", "")},
            {times("(", 10) + "s&", item.replace("(", "")}, {times("(", 10) + "s)&", item}, {"k", "<=>?"}, {"r", "<=>?"},
            {"y", "<=>?"}, {"c", "<=>?"}, {"d", "<=>?"}, {"k<", digits}, {"k=", digits}, {"k>", digits},
            {"k<1", digits + "&|"}, {"k=1234", digits + "&|"}, {"(k>1", digits + "&|)"}, {"k=12345", "&|"},
            {"(k=12345", "&|)"}, {"k?", "&|"}, {"(k?", "&|)"}, {"t", digits}, {"a", digits}, {"t0", "&|"}, {"a9", "&|"},
            {"(t9", "&|)"}, {"(a0", "&|)"}, {"s", "&|"}, {"v", "&|"}, {"u", "&|"}, {"b", "&|"}, {"(s", "&|)"},
            {"(v", "&|)"}, {"(u", "&|)"}, {"(b", "&|)"}, {"(s)", "&|"}, {"((s)", "&|)"}, {"((s))", "&|"}};
        for (String[] row : next) {
            for (char character = 33; character <= 126; character++) {
                MediaCatalog x = new MediaCatalog();
                Due.typed(x, row[0] + character);
                int length = row[0].length();
                int due = row[1].indexOf(character) < 0 ? length : x.fault() == Due.MISSING ? Due.MISSING : length + 1;
                Due.is("fault of " + row[0] + character, x.fault(), due);
            }
        }
    }

    private static void manySigns() {
        MediaCatalog x = Due.catalogOf(3);
        x.setValue(1, 0, 5, 8);
        for (int signs = 0; signs <= 20; signs++) {
            int due = signs % 2 == 0 ? 1 : 2;
            selects(x, times("!", signs) + "t3", due);
            selects(x, times("!", signs) + "(t3)", due);
            selects(x, times("!", signs) + "(" + times("!", signs) + "t3)", 1);
            selects(x, "b&" + times("!", signs) + "t3|s", due);
        }
    }

    private static void endsOfRanges() {
        String[] letters = {"k", "r", "y", "c", "d"};
        int[] least = {0, 0, 1900, 0, 0};
        int[] greatest = {2, 5, 2100, 20, 9999};
        for (int field = 0; field <= 4; field++) {
            MediaCatalog x = Due.catalogOf(3);
            x.setValue(0, 0, field, least[field]);
            x.setValue(1, 0, field, greatest[field]);
            selects(x, letters[field] + "<" + least[field], 0);
            selects(x, letters[field] + "=" + least[field], 1);
            selects(x, letters[field] + ">" + least[field], 1);
            selects(x, letters[field] + "<" + greatest[field], 1);
            selects(x, letters[field] + "=" + greatest[field], 1);
            selects(x, letters[field] + ">" + greatest[field], 0);
            selects(x, letters[field] + "<" + (greatest[field] + 1), 2);
        }
    }
}
