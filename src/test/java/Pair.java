/** A ShadowPages and a Model that get the same calls; every answer is compared. */
final class Pair {
    /** The calls that compareAll makes. */
    static final int CALLS_TO_COMPARE_ALL = 128 + 128 + 4 + 16;

    private final String name;
    private final ShadowPages real = new ShadowPages();
    private final Model model = new Model();
    private int calls = 0;

    Pair(String name) {
        this.name = name;
    }

    int callsMade() {
        return calls;
    }

    void write(int space, int page, int cell, int value) {
        compare("write", real.write(space, page, cell, value), model.write(space, page, cell, value),
                space, page, cell, value);
    }

    void read(int space, int page, int cell) {
        compare("read", real.read(space, page, cell), model.read(space, page, cell), space, page, cell);
    }

    void fork(int from, int to) {
        compare("fork", real.fork(from, to), model.fork(from, to), from, to);
    }

    void pack(int parcel, int space, int first, int count) {
        compare("pack", real.pack(parcel, space, first, count), model.pack(parcel, space, first, count),
                parcel, space, first, count);
    }

    void unpack(int parcel, int space, int first, boolean keep) {
        compare(keep ? "unpack, keeping," : "unpack, not keeping,",
                real.unpack(parcel, space, first, keep), model.unpack(parcel, space, first, keep),
                parcel, space, first);
    }

    void exchange(int space, int from, int to) {
        compare("exchange", real.exchange(space, from, to), model.exchange(space, from, to), space, from, to);
    }

    void clear(int space, int page) {
        compare("clear", real.clear(space, page), model.clear(space, page), space, page);
    }

    void size(int parcel) {
        compare("size", real.size(parcel), model.size(parcel), parcel);
    }

    void peek(int parcel, int page, int cell) {
        compare("peek", real.peek(parcel, page, cell), model.peek(parcel, page, cell), parcel, page, cell);
    }

    void alike(int a, int b) {
        compare("alike", real.alike(a, b), model.alike(a, b), a, b);
    }

    void compareAll() {
        for (int group = 0; group < 4; group++) {
            size(group);
            for (int page = 0; page < 8; page++) {
                for (int cell = 0; cell < 4; cell++) {
                    read(group, page, cell);
                    peek(group, page, cell);
                }
            }
            for (int other = 0; other < 4; other++) {
                alike(group, other);
            }
        }
    }

    private void compare(String method, int got, int want, int... arguments) {
        calls++;
        if (calls > 512) {
            throw new IllegalStateException(name + ": the document promises only 512 calls");
        }
        if (got != want) {
            StringBuilder text = new StringBuilder(name + ", call " + calls + ": " + method);
            for (int argument : arguments) {
                text.append(' ').append(argument);
            }
            Due.due(text.toString(), got, want);
        } else {
            Due.due(method, got, want);
        }
    }
}
