/** An object in which a call that ought to be refused can't change anything unseen. */
final class Filled {
    static final int CALLS_TO_MAKE = 128 + 3;

    private static final int[] SIZES = {1, 2, 0, 8};

    private Filled() {
    }

    /** No cell of a space is 0, and parcels 0 to 3 hold 1, 2, 0 and 8 pages of spaces 0 to 3. */
    static ShadowPages make() {
        ShadowPages pages = new ShadowPages();
        for (int space = 0; space < 4; space++) {
            for (int page = 0; page < 8; page++) {
                for (int cell = 0; cell < 4; cell++) {
                    pages.write(space, page, cell, value(space, page, cell));
                }
            }
        }
        pages.pack(0, 0, 0, 1);
        pages.pack(1, 1, 0, 2);
        pages.pack(3, 3, 0, 8);
        return pages;
    }

    static int value(int space, int page, int cell) {
        return 1 + (space * 8 + page) * 4 + cell;
    }

    static void dueUnchanged(String name, ShadowPages pages) {
        for (int group = 0; group < 4; group++) {
            dueSpaceUnchanged(name, pages, group);
            dueParcelUnchanged(name, pages, group);
        }
    }

    static void dueSpaceUnchanged(String name, ShadowPages pages, int space) {
        for (int page = 0; page < 8; page++) {
            dueSpacePage(name, pages, space, page, space, page);
        }
    }

    static void dueParcelUnchanged(String name, ShadowPages pages, int parcel) {
        Due.due(name + ", afterwards: size " + parcel, pages.size(parcel), SIZES[parcel]);
        for (int page = 0; page < 8; page++) {
            if (page < SIZES[parcel]) {
                dueParcelPage(name, pages, parcel, page, parcel, page);
            } else {
                dueNoParcelPage(name, pages, parcel, page);
            }
        }
    }

    /** The page of the space has the values that another one was filled with. */
    static void dueSpacePage(String name, ShadowPages pages, int space, int page, int filledSpace, int filledPage) {
        for (int cell = 0; cell < 4; cell++) {
            Due.due(name + ", afterwards: read " + space + " " + page + " " + cell,
                    pages.read(space, page, cell), value(filledSpace, filledPage, cell));
        }
    }

    /** The page of the parcel has the values that a page of a space was filled with. */
    static void dueParcelPage(String name, ShadowPages pages, int parcel, int page, int filledSpace, int filledPage) {
        for (int cell = 0; cell < 4; cell++) {
            Due.due(name + ", afterwards: peek " + parcel + " " + page + " " + cell,
                    pages.peek(parcel, page, cell), value(filledSpace, filledPage, cell));
        }
    }

    static void dueNoParcelPage(String name, ShadowPages pages, int parcel, int page) {
        for (int cell = 0; cell < 4; cell++) {
            Due.due(name + ", afterwards: peek " + parcel + " " + page + " " + cell, pages.peek(parcel, page, cell), 0);
        }
    }
}
