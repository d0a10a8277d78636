import java.util.Arrays;

/** The document's words with copies made at once: what ShadowPages must look like from outside. */
final class Model {
    private final int[][][] spaces = new int[4][8][4];
    private final int[][][] parcels = new int[4][0][];

    int write(int space, int page, int cell, int value) {
        if (!in(space, 4) || !in(page, 8) || !in(cell, 4)) {
            return -1;
        }
        spaces[space][page][cell] = value;
        return 0;
    }

    int read(int space, int page, int cell) {
        return in(space, 4) && in(page, 8) && in(cell, 4) ? spaces[space][page][cell] : 0;
    }

    int fork(int from, int to) {
        if (!in(from, 4) || !in(to, 4)) {
            return -1;
        }
        spaces[to] = copies(spaces[from], 0, 8);
        return 0;
    }

    int pack(int parcel, int space, int first, int count) {
        if (!in(parcel, 4) || !in(space, 4) || !in(first, 8)) {
            return -1;
        }
        if (count < 1 || count > 8 || first + count > 8) {
            return -1;
        }
        parcels[parcel] = copies(spaces[space], first, count);
        return 0;
    }

    int unpack(int parcel, int space, int first, boolean keep) {
        if (!in(parcel, 4) || !in(space, 4) || !in(first, 8)) {
            return -1;
        }
        int count = parcels[parcel].length;
        if (count == 0 || first + count > 8) {
            return -1;
        }
        int[][] pages = copies(parcels[parcel], 0, count);
        System.arraycopy(pages, 0, spaces[space], first, count);
        if (!keep) {
            parcels[parcel] = new int[0][];
        }
        return count;
    }

    int exchange(int space, int from, int to) {
        if (!in(space, 4) || !in(from, 8) || !in(to, 8)) {
            return -1;
        }
        int[] page = spaces[space][from];
        spaces[space][from] = spaces[space][to];
        spaces[space][to] = page;
        return 0;
    }

    int clear(int space, int page) {
        if (!in(space, 4) || !in(page, 8)) {
            return -1;
        }
        spaces[space][page] = new int[4];
        return 0;
    }

    int size(int parcel) {
        return in(parcel, 4) ? parcels[parcel].length : -1;
    }

    int peek(int parcel, int page, int cell) {
        boolean there = in(parcel, 4) && in(cell, 4) && in(page, parcels[parcel].length);
        return there ? parcels[parcel][page][cell] : 0;
    }

    int alike(int a, int b) {
        if (!in(a, 4) || !in(b, 4)) {
            return -1;
        }
        int equal = 0;
        for (int page = 0; page < 8; page++) {
            equal += Arrays.equals(spaces[a][page], spaces[b][page]) ? 1 : 0;
        }
        return equal;
    }

    private static boolean in(int number, int end) {
        return 0 <= number && number < end;
    }

    private static int[][] copies(int[][] pages, int first, int count) {
        int[][] made = new int[count][];
        for (int k = 0; k < count; k++) {
            made[k] = pages[first + k].clone();
        }
        return made;
    }
}
