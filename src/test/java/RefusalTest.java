/** Wrong inputs: each is refused with the answer that is due, and nothing has changed afterwards. */
public final class RefusalTest {
    private static final int[] NO_SPACE = {-1, 4, 5, 8, Integer.MIN_VALUE, Integer.MAX_VALUE, 1 << 29, 1 << 30};
    private static final int[] NO_PAGE = {-1, 8, 9, -8, 31, 32, Integer.MIN_VALUE, Integer.MAX_VALUE, 1 << 30};
    private static final int[] NO_CELL = {-1, 4, 7, -4, Integer.MIN_VALUE, Integer.MAX_VALUE};
    private static final int[] NO_COUNT = {0, -1, 9, Integer.MIN_VALUE, Integer.MAX_VALUE, Integer.MAX_VALUE - 7};

    private interface Call {
        long on(ShadowPages pages, int wrong);
    }

    public static void main(String[] args) {
        refuseSpaces();
        refuseParcels();
        refusePages();
        refuseCells();
        refuseRuns();
        Due.end();
    }

    private static void refuseSpaces() {
        each("write, space", NO_SPACE, -1, (x, n) -> x.write(n, 1, 1, 77));
        each("read, space", NO_SPACE, 0, (x, n) -> x.read(n, 1, 1));
        each("fork, from", NO_SPACE, -1, (x, n) -> x.fork(n, 1));
        each("fork, to", NO_SPACE, -1, (x, n) -> x.fork(1, n));
        each("fork, both", NO_SPACE, -1, (x, n) -> x.fork(n, n));
        each("pack, space", NO_SPACE, -1, (x, n) -> x.pack(1, n, 0, 1));
        each("unpack, space", NO_SPACE, -1, (x, n) -> x.unpack(0, n, 0, true));
        each("unpack, space, not keeping", NO_SPACE, -1, (x, n) -> x.unpack(0, n, 0, false));
        each("exchange, space", NO_SPACE, -1, (x, n) -> x.exchange(n, 1, 2));
        each("clear, space", NO_SPACE, -1, (x, n) -> x.clear(n, 1));
        each("alike, a", NO_SPACE, -1, (x, n) -> x.alike(n, 1));
        each("alike, b", NO_SPACE, -1, (x, n) -> x.alike(1, n));
        each("alike, both", NO_SPACE, -1, (x, n) -> x.alike(n, n));
    }

    private static void refuseParcels() {
        each("pack, parcel", NO_SPACE, -1, (x, n) -> x.pack(n, 1, 0, 1));
        each("unpack, parcel", NO_SPACE, -1, (x, n) -> x.unpack(n, 1, 0, true));
        each("unpack, parcel, not keeping", NO_SPACE, -1, (x, n) -> x.unpack(n, 1, 0, false));
        each("size, parcel", NO_SPACE, -1, (x, n) -> x.size(n));
        each("peek, parcel", NO_SPACE, 0, (x, n) -> x.peek(n, 0, 0));
    }

    private static void refusePages() {
        each("write, page", NO_PAGE, -1, (x, n) -> x.write(1, n, 1, 77));
        each("read, page", NO_PAGE, 0, (x, n) -> x.read(1, n, 1));
        each("pack, first", NO_PAGE, -1, (x, n) -> x.pack(1, 1, n, 1));
        each("unpack, first", NO_PAGE, -1, (x, n) -> x.unpack(0, 1, n, true));
        each("unpack, first, not keeping", NO_PAGE, -1, (x, n) -> x.unpack(0, 1, n, false));
        each("exchange, from", NO_PAGE, -1, (x, n) -> x.exchange(1, n, 2));
        each("exchange, to", NO_PAGE, -1, (x, n) -> x.exchange(1, 2, n));
        each("exchange, both", NO_PAGE, -1, (x, n) -> x.exchange(1, n, n));
        each("clear, page", NO_PAGE, -1, (x, n) -> x.clear(1, n));
        each("peek, page", NO_PAGE, 0, (x, n) -> x.peek(3, n, 0));
    }

    private static void refuseCells() {
        each("write, cell", NO_CELL, -1, (x, n) -> x.write(1, 1, n, 77));
        each("read, cell", NO_CELL, 0, (x, n) -> x.read(1, 1, n));
        each("peek, cell", NO_CELL, 0, (x, n) -> x.peek(3, 1, n));
    }

    private static void refuseRuns() {
        each("pack, count", NO_COUNT, -1, (x, n) -> x.pack(1, 1, 0, n));
        each("pack, count from page 7", NO_COUNT, -1, (x, n) -> x.pack(1, 1, 7, n));
        int[] firsts = {1, 2, 3, 4, 5, 6, 7};
        each("pack, one page too many from", firsts, -1, (x, n) -> x.pack(1, 1, n, 9 - n));
        each("pack, eight pages from", firsts, -1, (x, n) -> x.pack(1, 1, n, 8));
        // Parcel 1 holds two pages, parcel 3 all eight; parcel 2 is empty.
        each("unpack, two pages from", new int[] {7}, -1, (x, n) -> x.unpack(1, 1, n, true));
        each("unpack, two pages, not keeping, from", new int[] {7}, -1, (x, n) -> x.unpack(1, 1, n, false));
        each("unpack, eight pages from", firsts, -1, (x, n) -> x.unpack(3, 1, n, true));
        each("unpack, eight pages, not keeping, from", firsts, -1, (x, n) -> x.unpack(3, 1, n, false));
        each("unpack of an empty parcel to", firsts, -1, (x, n) -> x.unpack(2, 1, n, true));
        each("unpack of an empty parcel, not keeping, to", firsts, -1, (x, n) -> x.unpack(2, 1, n, false));
        each("peek behind the parcel's last page", firsts, 0, (x, n) -> x.peek(0, n, 0));
        each("peek into an empty parcel", firsts, 0, (x, n) -> x.peek(2, n, 0));
    }

    private static void each(String name, int[] wrongNumbers, long want, Call call) {
        for (int wrong : wrongNumbers) {
            ShadowPages pages = Filled.make();
            Due.due(name + " " + wrong, call.on(pages, wrong), want);
            Filled.dueUnchanged(name + " " + wrong, pages);
        }
    }
}
