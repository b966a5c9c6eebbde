/** The example of README.md, with the answers that stand there. */
final class ReadmeTest {
    private ReadmeTest() {
    }

    public static void main(String[] args) {
        firstCatalog();
        ruleText();
        Due.end();
    }

    private static void firstCatalog() {
        MediaCatalog catalog = new MediaCatalog();
        int first = catalog.add(4711, 2000);
        Due.is("README: first", first, 0);
        int second = catalog.add(4711, 1500);
        Due.is("README: second", second, 1);
        Due.is("README: setValue", catalog.setValue(second, 0, 1, 5), -4);
        Due.is("README: value", catalog.value(second, 1), 5);
        Due.is("README: keeperOf", catalog.keeperOf(first), 1);
        for (char character : "u&r>3".toCharArray()) {
            catalog.type(character);
        }
        Due.is("README: fault", catalog.fault(), -4);
        int album = catalog.makeAlbum();
        Due.is("README: album", album, 0);
        Due.is("README: viewSize", catalog.viewSize(album), 1);
        Due.is("README: viewAt", catalog.viewAt(album, 0), 1);
        Due.is("README: setValue again", catalog.setValue(second, 0, 1, 2), 5);
        Due.is("README: albumSize", catalog.albumSize(album), 0);
        Due.is("README: journalAt", catalog.journalAt(0, 2), 0);
        Due.is("README: add", catalog.add(10000, 1), -1);
    }

    /** "r>3&!(y<2000|t7)": rated over 3, and neither from before 2000 nor with the tag 7. */
    private static void ruleText() {
        MediaCatalog catalog = Due.catalogOf(4);
        for (int file = 0; file < 3; file++) {
            catalog.setValue(file, 0, 1, 4);
        }
        catalog.setValue(1, 0, 2, 1999);
        catalog.setValue(2, 0, 5, 1 << 7);
        Due.typed(catalog, "r>3&!(y<2000|t7)");
        Due.is("README: fault of the rule", catalog.fault(), Due.MISSING);
        for (int file = 0; file < 4; file++) {
            Due.is("README: rule, file " + file, catalog.satisfies(file), file == 0 ? 1 : 0);
        }
    }
}
