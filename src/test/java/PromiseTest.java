/** Each promise of the document by itself: ordinary inputs and the edges that it names. */
public final class PromiseTest {
    public static void main(String[] args) {
        promise1NewObject();
        promise1ObjectsAreApart();
        promise2Write();
        promise3Read();
        promise4Fork();
        promise4ForkOntoItself();
        promise5Pack();
        promise5PackAgain();
        promise6Unpack();
        promise6UnpackOntoItsSource();
        promise7Exchange();
        promise7ExchangeOfSharedPages();
        promise8Clear();
        promise9Size();
        promise10Peek();
        promise11Alike();
        copiesStayApartWhenAllPagesDiffer();
        Due.end();
    }

    private static void promise1NewObject() {
        ShadowPages x = new ShadowPages();
        for (int group = 0; group < 4; group++) {
            Due.due("new: size " + group, x.size(group), 0);
            Due.due("new: unpack " + group, x.unpack(group, 0, 0, true), -1);
            Due.due("new: alike 0 " + group, x.alike(0, group), 8);
            for (int place = 0; place < 32; place++) {
                Due.due("new: read " + group + " place " + place, x.read(group, place / 4, place % 4), 0);
                Due.due("new: peek " + group + " place " + place, x.peek(group, place / 4, place % 4), 0);
            }
        }
    }

    private static void promise1ObjectsAreApart() {
        ShadowPages x = new ShadowPages();
        ShadowPages y = new ShadowPages();
        x.write(0, 0, 0, 1);
        x.pack(0, 0, 0, 1);
        Due.due("another object: read", y.read(0, 0, 0), 0);
        Due.due("another object: size", y.size(0), 0);
    }

    private static void promise2Write() {
        ShadowPages x = new ShadowPages();
        int[] values = {1, -1, Integer.MIN_VALUE, Integer.MAX_VALUE};
        for (int cell = 0; cell < 4; cell++) {
            Due.due("write first cells", x.write(0, 0, cell, values[cell]), 0);
            Due.due("write last cells", x.write(3, 7, cell, values[3 - cell]), 0);
        }
        for (int cell = 0; cell < 4; cell++) {
            Due.due("written first cell " + cell, x.read(0, 0, cell), values[cell]);
            Due.due("written last cell " + cell, x.read(3, 7, cell), values[3 - cell]);
        }
        Due.due("write over", x.write(0, 0, 0, 0), 0);
        Due.due("written over", x.read(0, 0, 0), 0);
        Due.due("another page of the space", x.read(0, 1, 0), 0);
        Due.due("the page of another space", x.read(1, 0, 1), 0);
    }

    private static void promise3Read() {
        ShadowPages x = new ShadowPages();
        x.write(2, 5, 1, -7);
        Due.due("read", x.read(2, 5, 1), -7);
        Due.due("read again", x.read(2, 5, 1), -7);
        Due.due("read of a cell beside it", x.read(2, 5, 2), 0);
        Due.due("read refused", x.read(2, 5, 4), 0);
        Due.due("read refused, where page 6 begins", x.read(2, 4, 5), 0);
    }

    private static ShadowPages numbered() {
        ShadowPages x = new ShadowPages();
        for (int page = 0; page < 8; page++) {
            x.write(0, page, page % 4, 10 + page);
        }
        return x;
    }

    private static void promise4Fork() {
        ShadowPages x = numbered();
        x.write(3, 2, 0, 1);
        Due.due("fork", x.fork(0, 3), 0);
        for (int page = 0; page < 8; page++) {
            Due.due("forked page " + page, x.read(3, page, page % 4), 10 + page);
        }
        Due.due("what the forked page held is gone", x.read(3, 2, 0), 0);
        x.write(3, 1, 1, 50);
        Due.due("the original after a write to the copy", x.read(0, 1, 1), 11);
        x.write(0, 2, 2, 60);
        Due.due("the copy after a write to the original", x.read(3, 2, 2), 12);
        Due.due("the copy's other cells", x.read(3, 2, 3), 0);
        Due.due("a space that took no part", x.read(1, 1, 1), 0);
    }

    private static void promise4ForkOntoItself() {
        ShadowPages x = numbered();
        Due.due("fork onto itself", x.fork(0, 0), 0);
        Due.due("fork onto itself again", x.fork(0, 0), 0);
        x.write(0, 1, 0, 5);
        for (int page = 0; page < 8; page++) {
            Due.due("page " + page + " forked onto itself", x.read(0, page, page % 4), 10 + page);
        }
    }

    private static void promise5Pack() {
        ShadowPages x = numbered();
        Due.due("pack of the last page", x.pack(0, 0, 7, 1), 0);
        Due.due("pack of all pages", x.pack(1, 0, 0, 8), 0);
        Due.due("pack up to the end", x.pack(2, 0, 3, 5), 0);
        Due.due("pack up to the middle", x.pack(3, 0, 3, 2), 0);
        x.clear(0, 7);
        x.write(0, 3, 3, 99);
        Due.due("the last page's copy", x.peek(0, 0, 3), 17);
        for (int page = 0; page < 8; page++) {
            Due.due("page " + page + " of all", x.peek(1, page, page % 4), 10 + page);
        }
        Due.due("first page up to the end", x.peek(2, 0, 3), 13);
        Due.due("last page up to the end", x.peek(2, 4, 3), 17);
        Due.due("second page up to the middle", x.peek(3, 1, 0), 14);
        Due.due("no third page up to the middle", x.peek(3, 2, 1), 0);
        Due.due("the space still has its page", x.read(0, 4, 0), 14);
    }

    private static void promise5PackAgain() {
        ShadowPages x = numbered();
        x.pack(0, 0, 0, 8);
        Due.due("pack again", x.pack(0, 0, 5, 2), 0);
        Due.due("size of what is packed again", x.size(0), 2);
        Due.due("packed again", x.peek(0, 1, 2), 16);
        Due.due("what it held is gone", x.peek(0, 2, 2), 0);
        Due.due("refused pack", x.pack(0, 0, 7, 2), -1);
        Due.due("size after a refused pack", x.size(0), 2);
        Due.due("unpack of what is packed again", x.unpack(0, 1, 6, false), 2);
    }

    private static void promise6Unpack() {
        ShadowPages x = numbered();
        x.pack(2, 0, 1, 3);
        Due.due("unpack beyond page 7", x.unpack(2, 1, 6, true), -1);
        Due.due("unpack up to page 7", x.unpack(2, 1, 5, true), 3);
        Due.due("unpack again, since it was kept", x.unpack(2, 1, 0, true), 3);
        Due.due("unpacked at 5", x.read(1, 5, 1), 11);
        Due.due("unpacked at 7", x.read(1, 7, 3), 13);
        Due.due("unpacked at 2", x.read(1, 2, 3), 13);
        Due.due("not unpacked at 3", x.read(1, 3, 3), 0);
        x.write(1, 5, 1, 40);
        Due.due("parcel after a write to the copy", x.peek(2, 0, 1), 11);
        Due.due("the other copy after it", x.read(1, 0, 1), 11);
        Due.due("refused unpack, not keeping", x.unpack(2, 2, 6, false), -1);
        Due.due("size after it", x.size(2), 3);
        Due.due("unpack, not keeping", x.unpack(2, 2, 4, false), 3);
        Due.due("size after an unpack without keeping", x.size(2), 0);
        Due.due("unpack of the emptied parcel", x.unpack(2, 2, 0, true), -1);
        Due.due("unpacked without keeping", x.read(2, 6, 3), 13);
        Due.due("pack of an emptied parcel", x.pack(2, 0, 4, 1), 0);
        Due.due("the emptied parcel packed anew", x.peek(2, 0, 0), 14);
        Due.due("nothing of the old pages", x.peek(2, 1, 2), 0);
    }

    private static void promise6UnpackOntoItsSource() {
        ShadowPages x = numbered();
        x.pack(0, 0, 0, 7);
        Due.due("unpack one page further", x.unpack(0, 0, 1, true), 7);
        for (int page = 1; page < 8; page++) {
            Due.due("moved page " + page, x.read(0, page, (page - 1) % 4), 9 + page);
        }
        Due.due("page 0 stays", x.read(0, 0, 0), 10);
        x.write(0, 0, 0, 1);
        Due.due("page 1 is a page of its own", x.read(0, 1, 0), 10);
    }

    private static void promise7Exchange() {
        ShadowPages x = numbered();
        Due.due("exchange", x.exchange(0, 0, 7), 0);
        Due.due("page 0 has page 7's cell", x.read(0, 0, 3), 17);
        Due.due("page 0 has nothing of its own", x.read(0, 0, 0), 0);
        Due.due("page 7 has page 0's cell", x.read(0, 7, 0), 10);
        Due.due("page 7 has nothing of its own", x.read(0, 7, 3), 0);
        Due.due("exchange with itself", x.exchange(0, 3, 3), 0);
        Due.due("page exchanged with itself", x.read(0, 3, 3), 13);
        x.write(0, 3, 0, 5);
        Due.due("written after it", x.read(0, 3, 0), 5);
        Due.due("its other cell", x.read(0, 3, 3), 13);
    }

    private static void promise7ExchangeOfSharedPages() {
        ShadowPages x = numbered();
        x.fork(0, 1);
        x.pack(0, 0, 0, 8);
        x.exchange(0, 1, 2);
        Due.due("the fork's page 1 stays", x.read(1, 1, 1), 11);
        Due.due("the parcel's page 2 stays", x.peek(0, 2, 2), 12);
        x.write(0, 1, 2, 70);
        Due.due("the fork's page 2 after a write", x.read(1, 2, 2), 12);
        Due.due("the parcel's page 2 after a write", x.peek(0, 2, 2), 12);
        Due.due("the exchanged page after a write", x.read(0, 2, 1), 11);
    }

    private static void promise8Clear() {
        ShadowPages x = numbered();
        for (int cell = 0; cell < 4; cell++) {
            x.write(0, 7, cell, 5 + cell);
        }
        x.fork(0, 1);
        x.pack(0, 0, 7, 1);
        Due.due("clear", x.clear(0, 7), 0);
        for (int cell = 0; cell < 4; cell++) {
            Due.due("cleared cell " + cell, x.read(0, 7, cell), 0);
            Due.due("the fork's cell " + cell, x.read(1, 7, cell), 5 + cell);
            Due.due("the parcel's cell " + cell, x.peek(0, 0, cell), 5 + cell);
        }
        Due.due("clear again", x.clear(0, 7), 0);
        Due.due("the page beside it", x.read(0, 6, 2), 16);
        x.write(0, 7, 1, 8);
        Due.due("written after a clear", x.read(0, 7, 1), 8);
        Due.due("beside what was written", x.read(0, 7, 0), 0);
    }

    private static void promise9Size() {
        ShadowPages x = new ShadowPages();
        for (int count = 1; count <= 8; count++) {
            x.pack(3, 2, 8 - count, count);
            Due.due("size of " + count, x.size(3), count);
        }
        Due.due("size of the parcel beside it", x.size(2), 0);
        Due.due("size of no parcel", x.size(4), -1);
        Due.due("size of a parcel below 0", x.size(-1), -1);
        x.unpack(3, 0, 0, true);
        Due.due("size of a kept parcel", x.size(3), 8);
        x.unpack(3, 0, 0, false);
        Due.due("size of an emptied parcel", x.size(3), 0);
    }

    private static void promise10Peek() {
        ShadowPages x = numbered();
        x.pack(1, 0, 5, 3);
        Due.due("peek at page 0", x.peek(1, 0, 1), 15);
        Due.due("peek at page 2", x.peek(1, 2, 3), 17);
        Due.due("peek at no page", x.peek(1, 3, 3), 0);
        Due.due("peek below page 0", x.peek(1, -1, 0), 0);
        Due.due("peek at no cell, where page 1 begins", x.peek(1, 0, 6), 0);
        Due.due("peek into an empty parcel", x.peek(0, 0, 0), 0);
        x.unpack(1, 2, 0, false);
        Due.due("peek into an emptied parcel", x.peek(1, 0, 1), 0);
    }

    private static void promise11Alike() {
        ShadowPages x = numbered();
        Due.due("alike to an empty space", x.alike(0, 1), 0);
        Due.due("alike to itself", x.alike(0, 0), 8);
        Due.due("two empty spaces", x.alike(2, 3), 8);
        for (int cell = 0; cell < 4; cell++) {
            x.write(2, cell, cell, 1);
            Due.due("one cell differs in each page up to " + cell, x.alike(2, 3), 7 - cell);
            Due.due("the other way round", x.alike(3, 2), 7 - cell);
        }
        for (int page = 0; page < 8; page++) {
            x.write(1, page, page % 4, 10 + page);
            Due.due("written alike, not copied, up to " + page, x.alike(0, 1), page + 1);
        }
        x.exchange(1, 0, 4);
        Due.due("the same pages with other numbers", x.alike(0, 1), 6);
    }

    /** The least sharing there can be, and then the most changes from there on. */
    private static void copiesStayApartWhenAllPagesDiffer() {
        Pair pair = new Pair("all pages differ");
        for (int group = 0; group < 4; group++) {
            for (int page = 0; page < 8; page++) {
                pair.write(group, page, 0, 100 + group * 8 + page);
            }
            pair.pack(group, group, 0, 8);
            for (int page = 0; page < 8; page++) {
                pair.write(group, page, 1, 200 + group * 8 + page);
            }
        }
        pair.fork(3, 0);
        pair.unpack(3, 2, 0, false);
        for (int page = 0; page < 8; page++) {
            pair.write(0, page, 2, 300 + page);
            pair.clear(2, page);
            pair.write(3, page, 3, 400 + page);
        }
        pair.compareAll();
    }
}
