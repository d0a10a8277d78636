/**
 * Spaces and parcels of pages. A copied page shares its stored values with the original until one of
 * the two is written to; only then do the values part.
 *
 * A slot is a place where a page stands: first the pages of all spaces, then those of all parcels.
 * A frame holds the values of a page, and one or more slots name it. Every slot names a frame at all
 * times, also the slots that no parcel holds just now: so the users of all frames add up to SLOTS.
 */
public final class ShadowPages {
    private static final int SPACES = 4;
    private static final int PARCELS = 4;
    private static final int PAGES = 8;
    private static final int CELLS = 4;

    private static final int FIRST_PARCEL_SLOT = SPACES * PAGES;
    private static final int SLOTS = FIRST_PARCEL_SLOT + PARCELS * PAGES;
    // As many frames as slots are enough even when no two pages are shared.
    private static final int FRAMES = SLOTS;
    private static final int STORED_CELLS = FRAMES * CELLS;

    private static final int DONE = 0;
    private static final int REFUSED = -1;
    private static final int NO_VALUE = 0;

    private final int[] frameOf = new int[SLOTS];
    private final int[] users = new int[FRAMES];
    private final int[] stored = new int[STORED_CELLS];
    private final int[] held = new int[PARCELS];

    public ShadowPages() {
        // All pages are alike at the start, so all slots share frame 0.
        users[0] = SLOTS;
    }

    public int write(int space, int page, int cell, int value) {
        if (!isSpacePage(space, page) || !isBelow(cell, CELLS)) {
            return REFUSED;
        }
        int slot = spaceSlot(space, page);
        int frame = unsharedFrame(slot);
        stored[frame * CELLS + cell] = value;
        return DONE;
    }

    public int read(int space, int page, int cell) {
        if (!isSpacePage(space, page) || !isBelow(cell, CELLS)) {
            return NO_VALUE;
        }
        int slot = spaceSlot(space, page);
        return stored[frameOf[slot] * CELLS + cell];
    }

    public int fork(int from, int to) {
        if (!isBelow(from, SPACES) || !isBelow(to, SPACES)) {
            return REFUSED;
        }
        int source = spaceSlot(from, 0);
        int target = spaceSlot(to, 0);
        shareRun(source, target, PAGES);
        return DONE;
    }

    public int pack(int parcel, int space, int first, int count) {
        if (!isBelow(parcel, PARCELS) || !isSpacePage(space, first)) {
            return REFUSED;
        }
        if (count < 1 || !fits(first, count)) {
            return REFUSED;
        }
        int source = spaceSlot(space, first);
        int target = parcelSlot(parcel, 0);
        shareRun(source, target, count);
        held[parcel] = count;
        return DONE;
    }

    public int unpack(int parcel, int space, int first, boolean keep) {
        if (!isBelow(parcel, PARCELS) || !isSpacePage(space, first)) {
            return REFUSED;
        }
        int count = held[parcel];
        if (count == 0 || !fits(first, count)) {
            return REFUSED;
        }
        int source = parcelSlot(parcel, 0);
        int target = spaceSlot(space, first);
        shareRun(source, target, count);
        if (!keep) {
            held[parcel] = 0;
        }
        return count;
    }

    public int exchange(int space, int from, int to) {
        if (!isSpacePage(space, from) || !isSpacePage(space, to)) {
            return REFUSED;
        }
        int fromSlot = spaceSlot(space, from);
        int toSlot = spaceSlot(space, to);
        int fromFrame = frameOf[fromSlot];
        frameOf[fromSlot] = frameOf[toSlot];
        frameOf[toSlot] = fromFrame;
        return DONE;
    }

    public int clear(int space, int page) {
        if (!isSpacePage(space, page)) {
            return REFUSED;
        }
        int slot = spaceSlot(space, page);
        int frame = unsharedFrame(slot);
        for (int cell = 0; cell < CELLS; cell++) {
            stored[frame * CELLS + cell] = 0;
        }
        return DONE;
    }

    public int size(int parcel) {
        if (!isBelow(parcel, PARCELS)) {
            return REFUSED;
        }
        return held[parcel];
    }

    public int peek(int parcel, int page, int cell) {
        if (!isBelow(parcel, PARCELS) || !isBelow(cell, CELLS)) {
            return NO_VALUE;
        }
        if (!isBelow(page, held[parcel])) {
            return NO_VALUE;
        }
        int slot = parcelSlot(parcel, page);
        return stored[frameOf[slot] * CELLS + cell];
    }

    public int alike(int a, int b) {
        if (!isBelow(a, SPACES) || !isBelow(b, SPACES)) {
            return REFUSED;
        }
        int equalPages = 0;
        for (int page = 0; page < PAGES; page++) {
            int slotA = spaceSlot(a, page);
            int slotB = spaceSlot(b, page);
            if (sameValues(frameOf[slotA], frameOf[slotB])) {
                equalPages++;
            }
        }
        return equalPages;
    }

    private static boolean isBelow(int number, int end) {
        return number >= 0 && number < end;
    }

    private static boolean isSpacePage(int space, int page) {
        return isBelow(space, SPACES) && isBelow(page, PAGES);
    }

    private static boolean fits(int first, int count) {
        // first + count could wrap around; with first from 0 to 7 the difference can't.
        return count <= PAGES - first;
    }

    private static int spaceSlot(int space, int page) {
        return space * PAGES + page;
    }

    private static int parcelSlot(int parcel, int page) {
        return FIRST_PARCEL_SLOT + parcel * PAGES + page;
    }

    private void shareRun(int source, int target, int count) {
        for (int k = 0; k < count; k++) {
            share(source + k, target + k);
        }
    }

    private void share(int source, int target) {
        int frame = frameOf[source];
        users[frameOf[target]]--;
        users[frame]++;
        frameOf[target] = frame;
    }

    /** The slot's frame, with no other slot naming it, so that it can be changed. */
    private int unsharedFrame(int slot) {
        int frame = frameOf[slot];
        if (users[frame] == 1) {
            return frame;
        }
        int fresh = unusedFrame();
        for (int cell = 0; cell < CELLS; cell++) {
            stored[fresh * CELLS + cell] = stored[frame * CELLS + cell];
        }
        users[frame]--;
        users[fresh] = 1;
        frameOf[slot] = fresh;
        return fresh;
    }

    /** Asked for only while two slots share a frame: then fewer frames are in use than there are. */
    private int unusedFrame() {
        int frame = 0;
        while (frame < FRAMES - 1 && users[frame] != 0) {
            frame++;
        }
        return frame;
    }

    private boolean sameValues(int frameA, int frameB) {
        for (int cell = 0; cell < CELLS; cell++) {
            if (stored[frameA * CELLS + cell] != stored[frameB * CELLS + cell]) {
                return false;
            }
        }
        return true;
    }
}
