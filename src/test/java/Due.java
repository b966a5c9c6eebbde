/** Compares answers with those that are due, and ends the test with exit code 1 if one was wrong. */
final class Due {
    static final int INVALID = -1;
    static final int IMPOSSIBLE = -2;
    static final int LIMIT = -3;
    static final int MISSING = -4;

    private static int asked = 0;
    private static int wrong = 0;

    private Due() {
    }

    static void is(String call, int answer, int due) {
        asked++;
        if (answer != due) {
            wrong++;
            System.out.println(call + " answered " + answer + ", due is " + due);
        }
    }

    /** Types a text behind what stands in the rule text. */
    static void typed(MediaCatalog catalog, String characters) {
        for (int i = 0; i < characters.length(); i++) {
            catalog.type(characters.charAt(i));
        }
    }

    /** Makes this the rule text. */
    static void rule(MediaCatalog catalog, String rule) {
        catalog.clearRule();
        typed(catalog, rule);
    }

    static int album(MediaCatalog catalog, String rule) {
        rule(catalog, rule);
        return catalog.makeAlbum();
    }

    /** A catalog with this many files; file n has digest 100 + n and size 10 + n. */
    static MediaCatalog catalogOf(int files) {
        MediaCatalog catalog = new MediaCatalog();
        for (int file = 0; file < files; file++) {
            catalog.add(100 + file, 10 + file);
        }
        return catalog;
    }

    static void end() {
        System.out.println((asked - wrong) + " passed, " + wrong + " failed");
        if (wrong != 0) {
            System.exit(1);
        }
    }
}
