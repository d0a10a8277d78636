/**
 * A test of its own for each sentence of the document that names a boundary case, in the document's order.
 * The sentence stands above its test. (Numbers out of range: RefusalTest has them for each argument by itself.)
 */
public final class BoundaryTest {
    private static final int MIN = Integer.MIN_VALUE;
    private static final int MAX = Integer.MAX_VALUE;

    private interface Call {
        int on(ShadowPages pages);
    }

    public static void main(String[] args) {
        theCallsUpToThe512th();
        theFramesLastFor512Calls();
        laterCallsEnd();
        spacesPagesAndCells();
        intsInCells();
        zeroAtTheStart();
        parcelsHoldOneToEightPages();
        parcelsAreEmptyAtTheStart();
        aCopyIsAPageOfItsOwn();
        allPagesDiffer();
        anOutOfRangeNumberIsRefused();
        writeAnswers();
        writeChangesOneCell();
        readAnswers();
        forkTakesAllPages();
        forkAnswers();
        forkOntoItself();
        packTakesCountPages();
        packForgetsWhatTheParcelHeld();
        packAnswersForEachCountAndFirst();
        packSumThatWrapsAround();
        unpackTakesAsManyAsItHolds();
        unpackEmptiesUnlessKept();
        unpackOfAnEmptyParcel();
        unpackBeyondPage7();
        unpackSumThatWrapsAround();
        exchangeChangesPlaces();
        exchangeWithItself();
        exchangeAnswers();
        clearTakesAllCells();
        clearAnswers();
        sizeAnswers();
        peekCountsFromZero();
        peekAtNoSuchPage();
        peekRefused();
        alikeFromNoneToEight();
        alikeLooksAtAllFourCells();
        alikeComparesEqualNumbers();
        alikeAnswers();
        Due.end();
    }

    // "An object is used for at most 512 calls after it has been made"
    private static void theCallsUpToThe512th() {
        due512th("write", 0, x -> x.write(3, 7, 3, 1));
        due512th("write refused", -1, x -> x.write(4, 7, 3, 1));
        due512th("read", Filled.value(3, 7, 3), x -> x.read(3, 7, 3));
        due512th("fork", 0, x -> x.fork(0, 3));
        due512th("pack", 0, x -> x.pack(2, 0, 0, 8));
        due512th("unpack", 8, x -> x.unpack(3, 0, 0, false));
        due512th("exchange", 0, x -> x.exchange(0, 0, 7));
        due512th("clear", 0, x -> x.clear(3, 7));
        due512th("size", 8, x -> x.size(3));
        due512th("peek", Filled.value(3, 7, 3), x -> x.peek(3, 7, 3));
        due512th("alike", 0, x -> x.alike(0, 3));
    }

    private static void due512th(String name, int want, Call call) {
        ShadowPages x = Filled.make();
        for (int made = Filled.CALLS_TO_MAKE; made < 511; made++) {
            x.exchange(made % 4, 2, 2);
        }
        Due.due("512th call: " + name, call.on(x), want);
    }

    // "at most 512 calls": so many that frames which weren't given back would run out.
    private static void theFramesLastFor512Calls() {
        ShadowPages x = Filled.make();
        int rounds = (512 - Filled.CALLS_TO_MAKE - 8 * 9) / 18;
        for (int round = 1; round <= rounds; round++) {
            x.fork(0, 1);
            x.pack(0, 0, 0, 8);
            for (int page = 0; page < 8; page++) {
                x.write(1, page, 0, -round);
                x.write(0, page, 1, -round);
            }
        }
        for (int page = 0; page < 8; page++) {
            Due.due("many copies: original, written", x.read(0, page, 1), -rounds);
            Due.due("many copies: original", x.read(0, page, 0), Filled.value(0, page, 0));
            Due.due("many copies: fork, written", x.read(1, page, 0), -rounds);
            Due.due("many copies: fork", x.read(1, page, 1), 1 - rounds);
            Due.due("many copies: parcel", x.peek(0, page, 1), 1 - rounds);
            Filled.dueSpacePage("many copies", x, 3, page, 3, page);
        }
    }

    // "what later calls answer is free": but LANGUAGE.md's rule 7 has them end without throwing.
    private static void laterCallsEnd() {
        ShadowPages x = Filled.make();
        for (int k = 0; k < 20000; k++) {
            int n = k % 11 - 1;
            x.write(n, k % 8, n, k);
            x.read(n, n, n);
            x.fork(k % 4, n);
            x.pack(n, k % 4, n, k % 9);
            x.unpack(k % 4, n, k % 8, k % 3 != 0);
            x.exchange(n, k % 8, n);
            x.clear(n, n);
            x.size(n);
            x.peek(n, n, n);
            x.alike(n, k % 4);
        }
        Due.due("all of the later calls ended", 1, 1);
    }

    // "SPACES 0 to 3 have 8 PAGES each, 0 to 7; a page has 4 CELLS, 0 to 3"
    private static void spacesPagesAndCells() {
        // Were two of the 128 cells one, the filling would have left the later value in both.
        Filled.dueUnchanged("each cell by itself", Filled.make());
        int[][] ends = {{0, 0, 0}, {0, 0, 3}, {0, 7, 0}, {0, 7, 3}, {3, 0, 0}, {3, 0, 3}, {3, 7, 0}, {3, 7, 3}};
        for (int[] end : ends) {
            ShadowPages x = new ShadowPages();
            Due.due("write at the ends", x.write(end[0], end[1], end[2], 9), 0);
            Due.due("read at the ends", x.read(end[0], end[1], end[2]), 9);
        }
        for (int[] past : new int[][] {{4, 0, 0}, {0, 8, 0}, {0, 0, 4}, {-1, 7, 3}, {3, -1, 3}, {3, 7, -1}}) {
            dueRefused("write past an end", -1, x -> x.write(past[0], past[1], past[2], 9));
            dueRefused("read past an end", 0, x -> x.read(past[0], past[1], past[2]));
        }
    }

    // "CELLS ... with ints"
    private static void intsInCells() {
        ShadowPages x = new ShadowPages();
        for (int value : new int[] {MIN, MIN + 1, -65536, -129, -1, 0, 1, 128, 32768, 1 << 24, MAX - 1, MAX}) {
            Due.due("write of " + value, x.write(1, 2, 3, value), 0);
            Due.due("read of " + value, x.read(1, 2, 3), value);
            x.fork(1, 0);
            Due.due("read of a copied " + value, x.read(0, 2, 3), value);
            x.pack(0, 1, 2, 1);
            Due.due("peek at " + value, x.peek(0, 0, 3), value);
        }
    }

    // "(0 at the start)", also Promise 1
    private static void zeroAtTheStart() {
        ShadowPages x = new ShadowPages();
        for (int place = 0; place < 128; place++) {
            Due.due("at the start, place " + place, x.read(place / 32, place / 4 % 8, place % 4), 0);
        }
        x.write(0, 0, 0, 1);
        for (int place = 1; place < 128; place++) {
            Due.due("after the first write, place " + place, x.read(place / 32, place / 4 % 8, place % 4), 0);
        }
    }

    // "PARCELS 0 to 3 are empty or hold from 1 to 8 pages"
    private static void parcelsHoldOneToEightPages() {
        for (int parcel = 0; parcel < 4; parcel++) {
            for (int count = 1; count <= 8; count++) {
                ShadowPages x = new ShadowPages();
                Due.due("pack of " + count, x.pack(parcel, 0, 0, count), 0);
                Due.due("size of " + count, x.size(parcel), count);
                Due.due("unpack of " + count, x.unpack(parcel, 0, 0, true), count);
                Due.due("empty beside it", x.size((parcel + 1) % 4), 0);
            }
        }
        ShadowPages full = new ShadowPages();
        for (int parcel = 0; parcel < 4; parcel++) {
            full.write(parcel, 7, 3, 5 + parcel);
            full.pack(parcel, parcel, 0, 8);
        }
        for (int parcel = 0; parcel < 4; parcel++) {
            Due.due("all parcels full: size", full.size(parcel), 8);
            Due.due("all parcels full: peek", full.peek(parcel, 7, 3), 5 + parcel);
        }
    }

    // "(all are empty at the start)", also Promise 1
    private static void parcelsAreEmptyAtTheStart() {
        ShadowPages x = new ShadowPages();
        for (int parcel = 0; parcel < 4; parcel++) {
            Due.due("size at the start", x.size(parcel), 0);
            Due.due("peek at the start", x.peek(parcel, 0, 0), 0);
            Due.due("unpack at the start", x.unpack(parcel, 0, 0, true), -1);
            Due.due("unpack at the start, not keeping", x.unpack(parcel, 0, 0, false), -1);
        }
    }

    // "A copy of a page is a page of its own: writing to one of the two doesn't change the other."
    private static void aCopyIsAPageOfItsOwn() {
        for (int written = 0; written < 4; written++) {
            ShadowPages x = Filled.make();
            x.fork(0, 1);
            x.fork(1, 2);
            x.pack(2, 2, 0, 8);
            x.unpack(2, 3, 0, true);
            x.write(written, 7, 3, -5);
            x.clear(written, 6);
            x.exchange(written, 0, 1);
            String name = "five copies, changed in space " + written;
            for (int space = 0; space < 4; space++) {
                Filled.dueSpacePage(name, x, space, 0, 0, space == written ? 1 : 0);
                Filled.dueSpacePage(name, x, space, 1, 0, space == written ? 0 : 1);
                Due.due(name + ": cell of " + space, x.read(space, 7, 3), space == written ? -5 : Filled.value(0, 7, 3));
                Due.due(name + ": beside it", x.read(space, 7, 2), Filled.value(0, 7, 2));
                Due.due(name + ": page of " + space, x.read(space, 6, 0), space == written ? 0 : Filled.value(0, 6, 0));
            }
            for (int page = 0; page < 8; page++) {
                Filled.dueParcelPage(name, x, 2, page, 0, page);
            }
        }
    }

    // "A copy of a page is a page of its own": here every space and every full parcel has nothing but its own.
    private static void allPagesDiffer() {
        ShadowPages x = new ShadowPages();
        writeAllPages(x, 100);
        for (int group = 0; group < 4; group++) {
            Due.due("pack of all pages", x.pack(group, group, 0, 8), 0);
        }
        writeAllPages(x, 200);
        dueAllPages(x, 200, 100);
        // A cell that dueAllPages doesn't look at: all that it looks at stays.
        Due.due("write when all pages differ", x.write(0, 0, 1, 7), 0);
        dueAllPages(x, 200, 100);
        for (int group = 0; group < 4; group++) {
            Due.due("unpack of all pages", x.unpack(group, group, 0, true), 8);
        }
        writeAllPages(x, 300);
        dueAllPages(x, 300, 100);
    }

    private static void writeAllPages(ShadowPages x, int firstValue) {
        for (int place = 0; place < 32; place++) {
            Due.due("write to all pages", x.write(place / 8, place % 8, place % 4, firstValue + place), 0);
        }
    }

    private static void dueAllPages(ShadowPages x, int firstInSpaces, int firstInParcels) {
        for (int place = 0; place < 32; place++) {
            Due.due("all pages differ: read", x.read(place / 8, place % 8, place % 4), firstInSpaces + place);
            Due.due("all pages differ: peek", x.peek(place / 8, place % 8, place % 4), firstInParcels + place);
        }
    }

    // "A number out of range is refused: the call answers -1 and changes nothing." Here all are out of range.
    private static void anOutOfRangeNumberIsRefused() {
        for (int n : new int[] {-1, 8, 9, 64, MIN, MIN + 7, MAX, 1 << 29, 1 << 30}) {
            dueRefused("write, all " + n, -1, x -> x.write(n, n, n, n));
            dueRefused("read, all " + n, 0, x -> x.read(n, n, n));
            dueRefused("fork, all " + n, -1, x -> x.fork(n, n));
            dueRefused("pack, all " + n, -1, x -> x.pack(n, n, n, n));
            dueRefused("unpack, all " + n, -1, x -> x.unpack(n, n, n, true));
            dueRefused("unpack, not keeping, all " + n, -1, x -> x.unpack(n, n, n, false));
            dueRefused("exchange, all " + n, -1, x -> x.exchange(n, n, n));
            dueRefused("clear, all " + n, -1, x -> x.clear(n, n));
            dueRefused("size, all " + n, -1, x -> x.size(n));
            dueRefused("peek, all " + n, 0, x -> x.peek(n, n, n));
            dueRefused("alike, all " + n, -1, x -> x.alike(n, n));
        }
    }

    // Promise 2: "Answers 0, or -1." The value is never out of range.
    private static void writeAnswers() {
        ShadowPages x = new ShadowPages();
        for (int value : new int[] {0, 1, -1, 4, 8, MIN, MAX}) {
            Due.due("write of " + value, x.write(3, 7, 3, value), 0);
            Due.due("write of " + value + " again", x.write(3, 7, 3, value), 0);
        }
        dueRefused("write to space 4", -1, y -> y.write(4, 0, 0, 0));
        dueRefused("write to page 8", -1, y -> y.write(0, 8, 0, 0));
        dueRefused("write to cell 4", -1, y -> y.write(0, 0, 4, 0));
        dueRefused("write to space -1", -1, y -> y.write(-1, 0, 0, 0));
        dueRefused("write to page -1", -1, y -> y.write(1, -1, 0, 0));
        dueRefused("write to cell -1", -1, y -> y.write(0, 1, -1, 0));
    }

    // Promise 2: "The cell becomes value."
    private static void writeChangesOneCell() {
        for (int place = 0; place < 128; place += 9) {
            ShadowPages x = Filled.make();
            int space = place / 32;
            int page = place / 4 % 8;
            x.write(space, page, place % 4, -9);
            Due.due("the written cell", x.read(space, page, place % 4), -9);
            x.write(space, page, place % 4, Filled.value(space, page, place % 4));
            Filled.dueUnchanged("written back, place " + place, x);
        }
    }

    // Promise 3: "The cell's value; 0 if refused."
    private static void readAnswers() {
        ShadowPages x = new ShadowPages();
        x.write(0, 0, 0, -1);
        Due.due("read of a -1", x.read(0, 0, 0), -1);
        Due.due("read of a 0", x.read(0, 0, 1), 0);
        dueRefused("read of space 4", 0, y -> y.read(4, 0, 0));
        dueRefused("read of page 8", 0, y -> y.read(0, 8, 0));
        dueRefused("read of cell 4", 0, y -> y.read(0, 0, 4));
        dueRefused("read of space -1", 0, y -> y.read(-1, 7, 3));
        dueRefused("read of page -1", 0, y -> y.read(1, -1, 3));
        dueRefused("read of cell -1", 0, y -> y.read(0, 1, -1));
    }

    // Promise 4: "All pages of the space to become copies of the pages of the space from (page k of page k)."
    private static void forkTakesAllPages() {
        for (int pair = 0; pair < 16; pair++) {
            int from = pair / 4;
            int to = pair % 4;
            String name = "fork " + from + " " + to;
            ShadowPages x = Filled.make();
            Due.due(name, x.fork(from, to), 0);
            for (int space = 0; space < 4; space++) {
                for (int page = 0; page < 8; page++) {
                    Filled.dueSpacePage(name, x, space, page, space == to ? from : space, page);
                }
                Filled.dueParcelUnchanged(name, x, space);
            }
        }
    }

    // Promise 4: "Answers 0, or -1."
    private static void forkAnswers() {
        for (int from = -2; from <= 5; from++) {
            for (int to = -2; to <= 5; to++) {
                boolean known = from >= 0 && from <= 3 && to >= 0 && to <= 3;
                Due.due("fork " + from + " " + to, Filled.make().fork(from, to), known ? 0 : -1);
            }
        }
        dueRefused("fork from 4", -1, x -> x.fork(4, 0));
        dueRefused("fork to 4", -1, x -> x.fork(0, 4));
        dueRefused("fork from -1", -1, x -> x.fork(-1, 3));
        dueRefused("fork to -1", -1, x -> x.fork(3, -1));
    }

    // Promise 4: "(from = to changes nothing.)"
    private static void forkOntoItself() {
        for (int space = 0; space < 4; space++) {
            ShadowPages x = Filled.make();
            for (int times = 0; times < 100; times++) {
                Due.due("fork of a space onto itself", x.fork(space, space), 0);
            }
            Filled.dueUnchanged("fork onto itself", x);
            // Pages that share their values must also do so rightly after such a fork.
            ShadowPages shared = new ShadowPages();
            shared.fork(space, space);
            shared.write(space, 0, 0, 6);
            Due.due("written after a fork onto itself", shared.read(space, 0, 0), 6);
            Due.due("beside it", shared.read(space, 1, 0), 0);
            Due.due("in another space", shared.read((space + 1) % 4, 0, 0), 0);
        }
        dueRefused("fork of space 4 onto itself", -1, x -> x.fork(4, 4));
    }

    // Promise 5: "The parcel becomes copies of count pages of the space from page first on"
    private static void packTakesCountPages() {
        for (int first = 0; first < 8; first++) {
            for (int count = 1; count <= 8 - first; count++) {
                String name = "pack from " + first + " on, pages: " + count;
                ShadowPages x = Filled.make();
                Due.due(name, x.pack(2, 1, first, count), 0);
                Due.due(name + ": size", x.size(2), count);
                for (int page = 0; page < count; page++) {
                    Filled.dueParcelPage(name, x, 2, page, 1, first + page);
                }
                for (int page = count; page < 8; page++) {
                    Filled.dueNoParcelPage(name, x, 2, page);
                }
                Filled.dueSpaceUnchanged(name, x, 1);
                Filled.dueParcelUnchanged(name, x, 1);
                Filled.dueParcelUnchanged(name, x, 3);
            }
        }
    }

    // Promise 5: "(what it held before is gone)"
    private static void packForgetsWhatTheParcelHeld() {
        for (int before = 1; before <= 8; before++) {
            for (int after = 1; after <= 8; after++) {
                String name = "pack of " + after + " over " + before;
                ShadowPages x = Filled.make();
                x.pack(2, 0, 8 - before, before);
                Due.due(name, x.pack(2, 1, 0, after), 0);
                Due.due(name + ": size", x.size(2), after);
                for (int page = 0; page < after; page++) {
                    Filled.dueParcelPage(name, x, 2, page, 1, page);
                }
                for (int page = after; page < 8; page++) {
                    Filled.dueNoParcelPage(name, x, 2, page);
                }
                Due.due(name + ": unpack", x.unpack(2, 2, 8 - after, true), after);
                Filled.dueSpaceUnchanged(name, x, 0);
            }
        }
    }

    // Promise 5: "Answers 0; -1 (also if count is not from 1 to 8 or first + count is above 8)."
    private static void packAnswersForEachCountAndFirst() {
        for (int first = -3; first <= 10; first++) {
            for (int count = -3; count <= 12; count++) {
                String name = "pack from " + first + " on, pages: " + count;
                boolean known = first >= 0 && first <= 7 && count >= 1 && count <= 8 && first + count <= 8;
                if (known) {
                    Due.due(name, Filled.make().pack(1, 1, first, count), 0);
                } else {
                    int page = first;
                    int pages = count;
                    dueRefused(name, -1, x -> x.pack(1, 1, page, pages));
                    dueRefused(name + ", empty parcel", -1, x -> x.pack(2, 1, page, pages));
                }
            }
        }
        dueRefused("pack into parcel 4", -1, x -> x.pack(4, 0, 0, 1));
        dueRefused("pack into parcel -1", -1, x -> x.pack(-1, 0, 0, 1));
        dueRefused("pack of space 4", -1, x -> x.pack(0, 4, 0, 1));
        dueRefused("pack of space -1", -1, x -> x.pack(0, -1, 0, 1));
    }

    // Promise 5: "first + count is above 8", where the sum of ints wraps around to 8 or less
    private static void packSumThatWrapsAround() {
        for (int first = 0; first < 8; first++) {
            int page = first;
            for (int below = 0; below < 9; below++) {
                int count = MAX - below;
                dueRefused("pack from " + first + " on, pages: " + count, -1, x -> x.pack(1, 1, page, count));
            }
        }
        for (int count = 1; count <= 8; count++) {
            int pages = count;
            dueRefused("pack from MAX on, pages: " + count, -1, x -> x.pack(1, 1, MAX, pages));
            dueRefused("pack from MIN on, pages: " + count, -1, x -> x.pack(1, 1, MIN, pages));
            dueRefused("pack that ends before page 0, pages: " + count, -1, x -> x.pack(1, 1, -pages, pages));
        }
        dueRefused("pack, MIN and MIN", -1, x -> x.pack(1, 1, MIN, MIN));
        dueRefused("pack, MAX and MAX", -1, x -> x.pack(1, 1, MAX, MAX));
        dueRefused("pack, MIN pages", -1, x -> x.pack(1, 1, 7, MIN));
    }

    // Promise 6: "The pages of the space from page first on become copies of the parcel's pages, as many as it holds."
    private static void unpackTakesAsManyAsItHolds() {
        for (int count = 1; count <= 8; count++) {
            for (int first = 0; first <= 8 - count; first++) {
                String name = "unpack of " + count + " to page " + first;
                ShadowPages x = Filled.make();
                x.pack(2, 0, 8 - count, count);
                Due.due(name, x.unpack(2, 1, first, true), count);
                for (int page = 0; page < 8; page++) {
                    boolean unpacked = page >= first && page < first + count;
                    if (unpacked) {
                        Filled.dueSpacePage(name, x, 1, page, 0, 8 - count + page - first);
                    } else {
                        Filled.dueSpacePage(name, x, 1, page, 1, page);
                    }
                }
                Filled.dueSpaceUnchanged(name, x, 0);
                Filled.dueSpaceUnchanged(name, x, 2);
                Filled.dueParcelUnchanged(name, x, 1);
            }
        }
    }

    // Promise 6: "If keep is false, the parcel is empty afterwards."
    private static void unpackEmptiesUnlessKept() {
        for (int count = 1; count <= 8; count++) {
            String name = "unpack of " + count;
            ShadowPages x = Filled.make();
            x.pack(2, 0, 0, count);
            for (int times = 0; times < 3; times++) {
                Due.due(name + ", keeping", x.unpack(2, 1, 0, true), count);
                Due.due(name + ", keeping: size", x.size(2), count);
                Filled.dueParcelPage(name, x, 2, count - 1, 0, count - 1);
            }
            Due.due(name + ", not keeping", x.unpack(2, 1, 8 - count, false), count);
            Due.due(name + ", not keeping: size", x.size(2), 0);
            for (int page = 0; page < 8; page++) {
                Filled.dueNoParcelPage(name, x, 2, page);
            }
            Due.due(name + ", emptied: unpack", x.unpack(2, 1, 0, true), -1);
            Filled.dueSpacePage(name, x, 1, 7, 0, count - 1);
            Filled.dueParcelUnchanged(name, x, 1);
            Filled.dueParcelUnchanged(name, x, 3);
            Due.due(name + ", emptied: pack", x.pack(2, 3, 7, 1), 0);
            Due.due(name + ", packed anew: size", x.size(2), 1);
            Filled.dueParcelPage(name, x, 2, 0, 3, 7);
        }
    }

    // Promise 6: "-1 (also if the parcel is empty ...)"
    private static void unpackOfAnEmptyParcel() {
        for (int first = -1; first <= 8; first++) {
            int page = first;
            dueRefused("unpack of an empty parcel to " + first, -1, x -> x.unpack(2, 1, page, true));
            dueRefused("unpack of an empty parcel, not keeping, to " + first, -1, x -> x.unpack(2, 1, page, false));
        }
    }

    // Promise 6: "Answers how many pages; -1 (also if ... they would reach beyond page 7)."
    private static void unpackBeyondPage7() {
        for (int count = 1; count <= 8; count++) {
            for (int first = -2; first <= 10; first++) {
                ShadowPages x = Filled.make();
                x.pack(2, 0, 0, count);
                boolean known = first >= 0 && first + count <= 8;
                Due.due("unpack of " + count + " to " + first, x.unpack(2, 1, first, false), known ? count : -1);
                Due.due("size after unpack of " + count + " to " + first, x.size(2), known ? 0 : count);
            }
        }
        // Parcels 0, 1 and 3 hold one, two and eight pages.
        for (boolean keep : new boolean[] {true, false}) {
            dueRefused("unpack of one page to 8", -1, x -> x.unpack(0, 1, 8, keep));
            dueRefused("unpack of two pages to 7", -1, x -> x.unpack(1, 0, 7, keep));
            dueRefused("unpack of two pages to -1", -1, x -> x.unpack(1, 0, -1, keep));
            dueRefused("unpack of eight pages to 1", -1, x -> x.unpack(3, 0, 1, keep));
            dueRefused("unpack of eight pages to 7", -1, x -> x.unpack(3, 2, 7, keep));
            dueRefused("unpack of eight pages to -1", -1, x -> x.unpack(3, 1, -1, keep));
            dueRefused("unpack of parcel 4", -1, x -> x.unpack(4, 0, 0, keep));
            dueRefused("unpack of parcel -1", -1, x -> x.unpack(-1, 0, 0, keep));
            dueRefused("unpack to space 4", -1, x -> x.unpack(3, 4, 0, keep));
            dueRefused("unpack to space -1", -1, x -> x.unpack(3, -1, 0, keep));
        }
    }

    // Promise 6: "they would reach beyond page 7", where the sum of ints wraps around to less
    private static void unpackSumThatWrapsAround() {
        for (int below = 0; below < 9; below++) {
            int high = MAX - below;
            int low = MIN + below;
            for (boolean keep : new boolean[] {true, false}) {
                dueRefused("unpack of one page to " + high, -1, x -> x.unpack(0, 1, high, keep));
                dueRefused("unpack of eight pages to " + high, -1, x -> x.unpack(3, 1, high, keep));
                dueRefused("unpack of eight pages to " + low, -1, x -> x.unpack(3, 1, low, keep));
            }
        }
    }

    // Promise 7: "the two pages change places"
    private static void exchangeChangesPlaces() {
        for (int from = 0; from < 8; from++) {
            for (int to = 0; to < 8; to++) {
                String name = "exchange " + from + " " + to;
                ShadowPages x = Filled.make();
                Due.due(name, x.exchange(3, from, to), 0);
                for (int page = 0; page < 8; page++) {
                    int source = page == from ? to : page == to ? from : page;
                    Filled.dueSpacePage(name, x, 3, page, 3, source);
                }
                Filled.dueSpaceUnchanged(name, x, 0);
                Filled.dueSpaceUnchanged(name, x, 2);
                Filled.dueParcelUnchanged(name, x, 3);
                Due.due(name + ", back", x.exchange(3, from, to), 0);
                Filled.dueSpaceUnchanged(name + ", back", x, 3);
            }
        }
    }

    // Promise 7: "Answers 0, or -1.": a page with itself is in range.
    private static void exchangeWithItself() {
        for (int page = 0; page < 8; page++) {
            ShadowPages x = Filled.make();
            Due.due("exchange of page " + page + " with itself", x.exchange(3, page, page), 0);
            Filled.dueUnchanged("exchange of page " + page + " with itself", x);
            x.write(3, page, 0, -3);
            Due.due("written afterwards", x.read(3, page, 0), -3);
            Due.due("beside it", x.read(3, page, 1), Filled.value(3, page, 1));
            Due.due("its copy in the parcel", x.peek(3, page, 0), Filled.value(3, page, 0));
        }
    }

    // Promise 7: "Answers 0, or -1."
    private static void exchangeAnswers() {
        for (int from = -2; from <= 9; from++) {
            for (int to = -2; to <= 9; to++) {
                boolean known = from >= 0 && from <= 7 && to >= 0 && to <= 7;
                Due.due("exchange " + from + " " + to, Filled.make().exchange(1, from, to), known ? 0 : -1);
            }
        }
        dueRefused("exchange of page 7 and page 8", -1, x -> x.exchange(1, 7, 8));
        dueRefused("exchange of page 8 and page 7", -1, x -> x.exchange(1, 8, 7));
        dueRefused("exchange of page 0 and page -1", -1, x -> x.exchange(1, 0, -1));
        dueRefused("exchange of page -1 and page 0", -1, x -> x.exchange(1, -1, 0));
        dueRefused("exchange in space 4", -1, x -> x.exchange(4, 0, 7));
        dueRefused("exchange in space -1", -1, x -> x.exchange(-1, 0, 7));
    }

    // Promise 8: "All cells of the page become 0."
    private static void clearTakesAllCells() {
        for (int place = 0; place < 32; place++) {
            int space = place / 8;
            int page = place % 8;
            String name = "clear " + space + " " + page;
            ShadowPages x = Filled.make();
            Due.due(name, x.clear(space, page), 0);
            for (int cell = 0; cell < 4; cell++) {
                Due.due(name + ", cell " + cell, x.read(space, page, cell), 0);
                x.write(space, page, cell, Filled.value(space, page, cell));
            }
            Filled.dueUnchanged(name + ", filled again", x);
        }
    }

    // Promise 8: "Answers 0, or -1."
    private static void clearAnswers() {
        ShadowPages x = new ShadowPages();
        Due.due("clear of a page that is 0 already", x.clear(3, 7), 0);
        Due.due("clear of it again", x.clear(3, 7), 0);
        Due.due("it is still like the others", x.alike(0, 3), 8);
        dueRefused("clear of space 4", -1, y -> y.clear(4, 0));
        dueRefused("clear of space -1", -1, y -> y.clear(-1, 7));
        dueRefused("clear of page 8", -1, y -> y.clear(0, 8));
        dueRefused("clear of page -1", -1, y -> y.clear(1, -1));
    }

    // Promise 9: "The number of pages that the parcel holds (0 if it is empty), or -1."
    private static void sizeAnswers() {
        int[] sizes = {-1, -1, 1, 2, 0, 8, -1, -1};
        for (int parcel = -2; parcel <= 5; parcel++) {
            Due.due("size " + parcel, Filled.make().size(parcel), sizes[parcel + 2]);
        }
        ShadowPages x = Filled.make();
        x.pack(3, 0, 0, 9);
        Due.due("size after a refused pack", x.size(3), 8);
        x.unpack(3, 0, 1, false);
        Due.due("size after a refused unpack", x.size(3), 8);
        x.unpack(3, 0, 0, false);
        Due.due("size of a parcel that was full", x.size(3), 0);
        dueRefused("size of MIN", -1, y -> y.size(MIN));
        dueRefused("size of MAX", -1, y -> y.size(MAX));
    }

    // Promise 10: "(pages of a parcel are counted from 0)"
    private static void peekCountsFromZero() {
        for (int first = 0; first < 8; first++) {
            ShadowPages x = Filled.make();
            x.pack(2, 0, first, 8 - first);
            Filled.dueParcelPage("packed from " + first, x, 2, 0, 0, first);
            Filled.dueParcelPage("packed from " + first, x, 2, 7 - first, 0, 7);
        }
        ShadowPages x = new ShadowPages();
        x.write(0, 0, 0, -1);
        x.pack(0, 0, 0, 1);
        Due.due("peek at a -1", x.peek(0, 0, 0), -1);
    }

    // Promise 10: "0 ... if there is no such page."
    private static void peekAtNoSuchPage() {
        ShadowPages x = Filled.make();
        for (int count = 1; count <= 8; count++) {
            x.pack(2, 0, 0, 8);
            x.pack(2, 1, 0, count);
            for (int page = count; page <= 9; page++) {
                Filled.dueNoParcelPage("parcel of " + count, x, 2, page);
            }
        }
        x.unpack(2, 1, 0, false);
        Filled.dueNoParcelPage("emptied parcel", x, 2, 0);
        Filled.dueNoParcelPage("emptied parcel", x, 2, 7);
        // Parcel 2 of a filled object was never packed.
        dueRefused("peek at page 0 of an empty parcel", 0, y -> y.peek(2, 0, 0));
        dueRefused("peek at page 7 of an empty parcel", 0, y -> y.peek(2, 7, 3));
        dueRefused("peek at page 1 of one page", 0, y -> y.peek(0, 1, 0));
        dueRefused("peek at page 8 of eight pages", 0, y -> y.peek(3, 8, 0));
    }

    // Promise 10: "0 if refused"
    private static void peekRefused() {
        dueRefused("peek into parcel 4", 0, x -> x.peek(4, 0, 0));
        dueRefused("peek into parcel -1", 0, x -> x.peek(-1, 0, 0));
        dueRefused("peek at page -1", 0, x -> x.peek(3, -1, 0));
        dueRefused("peek at page MIN", 0, x -> x.peek(3, MIN, 0));
        dueRefused("peek at page MAX", 0, x -> x.peek(3, MAX, 0));
        dueRefused("peek at cell 4", 0, x -> x.peek(3, 0, 4));
        dueRefused("peek at cell -1", 0, x -> x.peek(3, 1, -1));
    }

    // Promise 11: "How many pages of the two spaces with equal numbers have the same values"
    private static void alikeFromNoneToEight() {
        ShadowPages x = Filled.make();
        for (int pair = 0; pair < 16; pair++) {
            Due.due("alike, filled, pair " + pair, x.alike(pair / 4, pair % 4), pair / 4 == pair % 4 ? 8 : 0);
        }
        for (int page = 0; page < 8; page++) {
            // Written, not copied: the values count, not where they came from.
            for (int cell = 0; cell < 4; cell++) {
                x.write(3, page, cell, Filled.value(0, page, cell));
            }
            Due.due("alike, pages written: " + (page + 1), x.alike(0, 3), page + 1);
            Due.due("alike the other way round", x.alike(3, 0), page + 1);
        }
    }

    // Promise 11: "the same values in all four cells"
    private static void alikeLooksAtAllFourCells() {
        for (int place = 0; place < 32; place++) {
            int page = place / 4;
            int cell = place % 4;
            ShadowPages x = Filled.make();
            x.fork(0, 1);
            Due.due("alike after a fork", x.alike(0, 1), 8);
            for (int bit = 0; bit < 32; bit++) {
                x.write(1, page, cell, Filled.value(0, page, cell) ^ 1 << bit);
                Due.due("alike but for a bit of cell " + cell + " of page " + page, x.alike(0, 1), 7);
            }
            x.write(1, page, cell, Filled.value(0, page, cell));
            Due.due("alike when written back", x.alike(0, 1), 8);
        }
        ShadowPages turned = new ShadowPages();
        turned.write(0, 0, 0, 1);
        turned.write(0, 0, 1, 2);
        turned.write(1, 0, 0, 2);
        turned.write(1, 0, 1, 1);
        Due.due("the same values in other cells", turned.alike(0, 1), 7);
    }

    // Promise 11: "pages of the two spaces with equal numbers"
    private static void alikeComparesEqualNumbers() {
        ShadowPages x = Filled.make();
        x.fork(0, 1);
        x.exchange(1, 0, 7);
        Due.due("alike when two pages have changed places", x.alike(0, 1), 6);
        x.exchange(0, 7, 0);
        Due.due("alike when they have in both", x.alike(0, 1), 8);
        x.clear(0, 3);
        Due.due("alike when one page is cleared", x.alike(0, 1), 7);
        x.clear(1, 3);
        Due.due("alike when it is in both", x.alike(0, 1), 8);
        x.clear(1, 4);
        x.clear(0, 5);
        Due.due("alike when different ones are", x.alike(0, 1), 6);
    }

    // Promise 11: "-1"
    private static void alikeAnswers() {
        for (int a = -2; a <= 5; a++) {
            for (int b = -2; b <= 5; b++) {
                boolean known = a >= 0 && a <= 3 && b >= 0 && b <= 3;
                Due.due("alike " + a + " " + b, new ShadowPages().alike(a, b), known ? 8 : -1);
            }
        }
        dueRefused("alike 4 4", -1, x -> x.alike(4, 4));
        dueRefused("alike -1 0", -1, x -> x.alike(-1, 0));
        dueRefused("alike 0 MAX", -1, x -> x.alike(0, MAX));
    }

    private static void dueRefused(String name, int want, Call call) {
        ShadowPages x = Filled.make();
        Due.due(name, call.on(x), want);
        Filled.dueUnchanged(name, x);
    }
}
