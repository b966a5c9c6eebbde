/** Catalogs in states that several tests begin with. */
final class States {
    private States() {
    }

    /** 40 files and nothing else. */
    static MediaCatalog files() {
        return Due.catalogOf(40);
    }

    /** 40 files, and 10 stacks: stack n of the files 2n and 2n + 1. */
    static MediaCatalog pairs() {
        MediaCatalog x = files();
        for (int stack = 0; stack < 10; stack++) {
            x.stack(2 * stack, 2 * stack + 1);
        }
        return x;
    }

    /** 40 files, and 8 albums that have them all. */
    static MediaCatalog albums() {
        MediaCatalog x = files();
        Due.rule(x, "b");
        for (int album = 0; album < 8; album++) {
            x.makeAlbum();
        }
        return x;
    }

    /** 40 files, with one stack: of the files 0, 39 and 20. */
    static MediaCatalog trio() {
        MediaCatalog x = files();
        x.stack(0, 39);
        x.putInto(0, 20, 2);
        return x;
    }

    /** 40 files, 10 stacks and 8 albums; then without file 38, stack 3 and album 5. */
    static MediaCatalog holes() {
        MediaCatalog x = pairs();
        Due.rule(x, "b");
        for (int album = 0; album < 8; album++) {
            x.makeAlbum();
        }
        x.remove(38);
        x.takeOut(6);
        x.removeAlbum(5);
        return x;
    }

    /**
     * Everything that has a limit is at its limit: 40 files (in groups of two), 10 stacks (the first with
     * the files 0 to 7, the last with 24 and 25), 8 albums, 24 entries, and a rule of 80 characters.
     */
    static MediaCatalog full() {
        MediaCatalog x = new MediaCatalog();
        for (int file = 0; file < 40; file++) {
            x.add(100 + file / 2, 10 + file);
        }
        x.stack(0, 1);
        for (int file = 2; file < 8; file++) {
            x.putInto(0, file, file);
        }
        for (int file = 8; file < 26; file += 2) {
            x.stack(file, file + 1);
        }
        Due.album(x, "s");
        Due.album(x, "!s");
        Due.album(x, "a0&u");
        Due.rule(x, "b");
        for (int album = 3; album < 8; album++) {
            x.makeAlbum();
        }
        Due.typed(x, "|" + "!".repeat(77) + "s");
        return x;
    }

    /**
     * 12 files, the groups 0, 1, 2 and 3, 4 and 10, 11, the stacks 0 (0, 6, 3), 1 (1, 4, collapsed, with
     * the chosen cover 4) and 2 (8, 9), the albums 0 to 3, and a rule that names one.
     */
    static MediaCatalog busy() {
        MediaCatalog x = new MediaCatalog();
        int[] digests = {5, 5, 5, 6, 6, 7, 8, 9, 10, 11, 12, 12};
        for (int file = 0; file < digests.length; file++) {
            x.add(digests[file], 100 + file);
            x.setValue(file, file % 3, 1, file % 6);
            x.setValue(file, (file + 1) % 3, 2, 1990 + file);
            x.setValue(file, 1, 5, 1 << file % 10);
        }
        x.setValue(2, 0, 1, 0);
        x.setValue(2, 0, 0, 2);
        x.stack(0, 3);
        x.putInto(0, 6, 1);
        x.stack(1, 4);
        x.chooseCover(1, 4);
        x.collapse(1, 1);
        x.stack(8, 9);
        Due.album(x, "r>2");
        Due.album(x, "a0&s|u");
        Due.album(x, "!a1");
        Due.album(x, "t1|v");
        x.sortBy(2, 2, 0);
        Due.rule(x, "a2&b");
        return x;
    }
}
