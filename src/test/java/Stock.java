/** A shelf with something of every sort in its places, and a look at the whole of it. */
final class Stock {
    static final int SMALL_MAP = 0, SMALL_LIST = 1, NONE = 2, FULL_MAP = 3, FULL_LIST = 4;
    static final int OTHER_FULL_MAP = 5, EMPTY_MAP = 6, EMPTY_LIST = 7;
    static final int CALLS_TO_FILL = 3 + 4 + 25 + 49 + 25 + 1 + 1;

    /** A call on a shelf; a boolean answer counts 1 or 0. */
    interface Call {
        long on(PersistentShelf x);
    }

    /** An operation whose place 'to' is still open. */
    interface Operation {
        int into(PersistentShelf x, int to);
    }

    record Row(String name, Call call, long due) {
    }

    record Work(String name, Operation operation, int size) {
    }

    /** Works of every operation, none of them refused, each with the size that is due. */
    static final Work[] WORKS = {
        new Work("make a map", (x, to) -> x.make(to, PersistentShelf.MAP), 0),
        new Work("make a list", (x, to) -> x.make(to, PersistentShelf.LIST), 0),
        new Work("make nothing", (x, to) -> x.make(to, PersistentShelf.NOTHING), 0),
        new Work("copy a map", (x, to) -> x.copy(FULL_MAP, to), 24),
        new Work("copy a list", (x, to) -> x.copy(FULL_LIST, to), 48),
        new Work("put a new key", (x, to) -> x.put(SMALL_MAP, 3, 30, to), 3),
        new Work("put a key that is there", (x, to) -> x.put(FULL_MAP, 230, -7, to), 24),
        new Work("remove", (x, to) -> x.remove(SMALL_MAP, 5, to), 1),
        new Work("merge 0", (x, to) -> x.merge(SMALL_MAP, EMPTY_MAP, 0, to), 2),
        new Work("merge 1", (x, to) -> x.merge(EMPTY_MAP, SMALL_MAP, 1, to), 2),
        new Work("merge 2", (x, to) -> x.merge(FULL_MAP, FULL_MAP, 2, to), 24),
        new Work("merge 3", (x, to) -> x.merge(FULL_MAP, OTHER_FULL_MAP, 3, to), 0),
        new Work("merge 4", (x, to) -> x.merge(FULL_MAP, OTHER_FULL_MAP, 4, to), 24),
        new Work("merge 5", (x, to) -> x.merge(FULL_MAP, EMPTY_MAP, 5, to), 24),
        new Work("insert", (x, to) -> x.insert(SMALL_LIST, 1, 9, to), 4),
        new Work("cut", (x, to) -> x.cut(FULL_LIST, 1, 47, to), 2),
        new Work("part", (x, to) -> x.part(FULL_LIST, 1, 47, to), 46),
        new Work("join", (x, to) -> x.join(SMALL_LIST, SMALL_LIST, to), 6),
        new Work("turn", (x, to) -> x.turn(FULL_LIST, to), 48),
        new Work("convert 0", (x, to) -> x.convert(FULL_MAP, 0, to), 24),
        new Work("convert 1", (x, to) -> x.convert(FULL_MAP, 1, to), 24),
        new Work("convert 2", (x, to) -> x.convert(SMALL_LIST, 2, to), 2),
        new Work("convert 3", (x, to) -> x.convert(SMALL_LIST, 3, to), 2),
    };

    private Stock() {
    }

    /** Takes CALLS_TO_FILL of the 512 calls that an object is used for. */
    static PersistentShelf filled() {
        PersistentShelf x = new PersistentShelf();
        putAll(x, SMALL_MAP, 1, 10, 5, 50);
        insertAll(x, SMALL_LIST, 3, 4, 3);
        putAll(x, FULL_MAP, fullMap(0));
        insertAll(x, FULL_LIST, fullList());
        putAll(x, OTHER_FULL_MAP, fullMap(5));
        putAll(x, EMPTY_MAP);
        insertAll(x, EMPTY_LIST);
        return x;
    }

    static void putAll(PersistentShelf x, int place, int... pairs) {
        x.make(place, PersistentShelf.MAP);
        for (int n = 0; n + 1 < pairs.length; n += 2) {
            x.put(place, pairs[n], pairs[n + 1], place);
        }
    }

    static void insertAll(PersistentShelf x, int place, int... elements) {
        x.make(place, PersistentShelf.LIST);
        for (int n = 0; n < elements.length; n++) {
            x.insert(place, n, elements[n], place);
        }
    }

    /** 24 keys, multiples of 10 and so many more, with the values 1 to 24. */
    static int[] fullMap(int more) {
        int[] pairs = new int[48];
        for (int n = 0; n < 24; n++) {
            pairs[2 * n] = 10 * n + more;
            pairs[2 * n + 1] = n + 1;
        }
        return pairs;
    }

    /** 48 elements, each another one: 100 to 147. */
    static int[] fullList() {
        return rising(100, 48);
    }

    static int[] rising(int first, int count) {
        int[] elements = new int[count];
        for (int n = 0; n < count; n++) {
            elements[n] = first + n;
        }
        return elements;
    }

    /** What is in each place, told in words. */
    static String[] look(PersistentShelf x) {
        String[] told = new String[8];
        for (int place = 0; place < 8; place++) {
            told[place] = look(x, place);
        }
        return told;
    }

    static String look(PersistentShelf x, int place) {
        int kind = x.about(place, 0);
        int size = x.about(place, 1);
        StringBuilder told = new StringBuilder("kind " + kind + ", size " + size + ":");
        for (int n = 0; n < size; n++) {
            if (kind == PersistentShelf.MAP) {
                int k = x.key(place, n);
                told.append(" " + k + "=" + x.value(place, k));
            } else {
                told.append(" " + x.at(place, n));
            }
        }
        return told.toString();
    }
}
