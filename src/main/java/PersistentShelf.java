public final class PersistentShelf {
    public static final int BAD = -1, KIND = -2, INDEX = -3, FULL = -4;
    public static final int NOTHING = 0, MAP = 1, LIST = 2;

    private static final int PLACES = 8;
    private static final int MOST_KEYS = 24;
    private static final int MOST_ELEMENTS = 48;
    private static final int CELLS = PLACES * MOST_ELEMENTS;

    // What merge() can do, beside keeping all keys with the value of a (0).
    private static final int VALUES_OF_B = 1, SUMS = 2, IN_BOTH = 3, NOT_IN_B = 4, IN_JUST_ONE = 5;

    // What convert() can do.
    private static final int KEYS = 0, VALUES = 1, COUNTS = 2, LAST_INDEXES = 3;

    private final int[] kinds = new int[PLACES];
    private final int[] sizes = new int[PLACES];

    // Each place owns a row of MOST_ELEMENTS cells. A map has its keys in items, rising,
    // so that one content has one form; a list has its elements there and zeros in values.
    private final int[] items = new int[CELLS];
    private final int[] values = new int[CELLS];

    // A new collection is drafted apart from the places: 'to' may be one that it is made
    // from, and a draft that turns out too big must leave no trace.
    private final int[] draftItems = new int[MOST_ELEMENTS];
    private final int[] draftValues = new int[MOST_ELEMENTS];
    private int draftSize = 0;

    public PersistentShelf() {
    }

    public int make(int to, int kind) {
        if (!isPlace(to) || kind < NOTHING || kind > LIST) {
            return BAD;
        }
        startDraft();
        return shelve(kind, to);
    }

    public int copy(int from, int to) {
        if (!isPlace(from) || !isPlace(to)) {
            return BAD;
        }
        if (kinds[from] == NOTHING) {
            return KIND;
        }
        startDraft();
        draftRange(from, 0, sizes[from]);
        return shelve(kinds[from], to);
    }

    public int put(int from, int k, int v, int to) {
        if (!isPlace(from) || !isPlace(to)) {
            return BAD;
        }
        if (kinds[from] != MAP) {
            return KIND;
        }
        int row = rowOf(from);
        int spot = keysBelow(items, row, sizes[from], k);
        int rest = hasKeyAt(from, spot, k) ? spot + 1 : spot;
        startDraft();
        draftRange(from, 0, spot);
        draft(k, v);
        draftRange(from, rest, sizes[from]);
        return shelve(MAP, to);
    }

    public int remove(int from, int k, int to) {
        if (!isPlace(from) || !isPlace(to)) {
            return BAD;
        }
        if (kinds[from] != MAP) {
            return KIND;
        }
        int row = rowOf(from);
        int spot = keysBelow(items, row, sizes[from], k);
        int rest = hasKeyAt(from, spot, k) ? spot + 1 : spot;
        startDraft();
        draftRange(from, 0, spot);
        draftRange(from, rest, sizes[from]);
        return shelve(MAP, to);
    }

    public int merge(int a, int b, int how, int to) {
        if (!isPlace(a) || !isPlace(b) || !isPlace(to) || how < 0 || how > IN_JUST_ONE) {
            return BAD;
        }
        if (kinds[a] != MAP || kinds[b] != MAP) {
            return KIND;
        }
        startDraft();
        draftMerged(a, b, how);
        return shelve(MAP, to);
    }

    public int value(int from, int k) {
        if (!holds(from, MAP)) {
            return 0;
        }
        int row = rowOf(from);
        int spot = keysBelow(items, row, sizes[from], k);
        return hasKeyAt(from, spot, k) ? values[row + spot] : 0;
    }

    public int key(int from, int i) {
        return itemOf(from, MAP, i);
    }

    public int insert(int from, int i, int v, int to) {
        if (!isPlace(from) || !isPlace(to)) {
            return BAD;
        }
        if (kinds[from] != LIST) {
            return KIND;
        }
        if (i < 0 || i > sizes[from]) {
            return INDEX;
        }
        startDraft();
        draftRange(from, 0, i);
        draft(v, 0);
        draftRange(from, i, sizes[from]);
        return shelve(LIST, to);
    }

    public int cut(int from, int i, int j, int to) {
        int refused = refusalOfRange(from, i, j, to);
        if (refused != 0) {
            return refused;
        }
        startDraft();
        draftRange(from, 0, i);
        draftRange(from, j, sizes[from]);
        return shelve(LIST, to);
    }

    public int part(int from, int i, int j, int to) {
        int refused = refusalOfRange(from, i, j, to);
        if (refused != 0) {
            return refused;
        }
        startDraft();
        draftRange(from, i, j);
        return shelve(LIST, to);
    }

    public int join(int a, int b, int to) {
        if (!isPlace(a) || !isPlace(b) || !isPlace(to)) {
            return BAD;
        }
        if (kinds[a] != LIST || kinds[b] != LIST) {
            return KIND;
        }
        startDraft();
        draftRange(a, 0, sizes[a]);
        draftRange(b, 0, sizes[b]);
        return shelve(LIST, to);
    }

    public int turn(int from, int to) {
        if (!isPlace(from) || !isPlace(to)) {
            return BAD;
        }
        if (kinds[from] != LIST) {
            return KIND;
        }
        startDraft();
        int row = rowOf(from);
        for (int n = sizes[from] - 1; n >= 0; n--) {
            draft(items[row + n], 0);
        }
        return shelve(LIST, to);
    }

    public int at(int from, int i) {
        return itemOf(from, LIST, i);
    }

    public long sum(int from, int i, int j) {
        if (!holds(from, LIST)) {
            return 0;
        }
        int row = rowOf(from);
        int first = i < 0 ? 0 : i;
        int end = j > sizes[from] ? sizes[from] : j;
        long total = 0;
        for (int n = first; n < end; n++) {
            total += items[row + n];
        }
        return total;
    }

    public int convert(int from, int what, int to) {
        if (!isPlace(from) || !isPlace(to) || what < KEYS || what > LAST_INDEXES) {
            return BAD;
        }
        boolean toList = what == KEYS || what == VALUES;
        if (kinds[from] != (toList ? MAP : LIST)) {
            return KIND;
        }
        startDraft();
        int row = rowOf(from);
        int size = sizes[from];
        for (int n = 0; n < size; n++) {
            if (toList) {
                draft(what == KEYS ? items[row + n] : values[row + n], 0);
            } else {
                draftTally(items[row + n], n, what);
            }
        }
        return shelve(toList ? LIST : MAP, to);
    }

    public int about(int place, int what) {
        if (!isPlace(place) || what < 0 || what > 1) {
            return BAD;
        }
        return what == 0 ? kinds[place] : sizes[place];
    }

    public boolean same(int a, int b) {
        if (!isPlace(a) || !isPlace(b) || kinds[a] == NOTHING) {
            return false;
        }
        if (kinds[a] != kinds[b] || sizes[a] != sizes[b]) {
            return false;
        }
        int rowA = rowOf(a);
        int rowB = rowOf(b);
        int size = sizes[a];
        for (int n = 0; n < size; n++) {
            if (items[rowA + n] != items[rowB + n] || values[rowA + n] != values[rowB + n]) {
                return false;
            }
        }
        return true;
    }

    private boolean isPlace(int place) {
        return place >= 0 && place < PLACES;
    }

    private boolean holds(int place, int kind) {
        return isPlace(place) && kinds[place] == kind;
    }

    private int rowOf(int place) {
        return place * MOST_ELEMENTS;
    }

    private int itemOf(int from, int kind, int i) {
        if (!holds(from, kind) || i < 0 || i >= sizes[from]) {
            return 0;
        }
        return items[rowOf(from) + i];
    }

    private int refusalOfRange(int from, int i, int j, int to) {
        if (!isPlace(from) || !isPlace(to)) {
            return BAD;
        }
        if (kinds[from] != LIST) {
            return KIND;
        }
        return 0 <= i && i <= j && j <= sizes[from] ? 0 : INDEX;
    }

    // How many of the rising keys are below k: where k stands, or would stand, among them.
    private int keysBelow(int[] keys, int start, int size, int k) {
        int below = 0;
        while (below < size && keys[start + below] < k) {
            below++;
        }
        return below;
    }

    private boolean hasKeyAt(int place, int spot, int k) {
        return spot < sizes[place] && items[rowOf(place) + spot] == k;
    }

    private void startDraft() {
        draftSize = 0;
    }

    // A draft may be counted past its room: shelve() then sees how big it would have been.
    private void draft(int item, int v) {
        if (draftSize < MOST_ELEMENTS) {
            draftItems[draftSize] = item;
            draftValues[draftSize] = v;
        }
        draftSize++;
    }

    private void draftRange(int from, int first, int end) {
        int row = rowOf(from);
        for (int n = first; n < end; n++) {
            draft(items[row + n], values[row + n]);
        }
    }

    private void draftMerged(int a, int b, int how) {
        int rowA = rowOf(a);
        int endA = rowA + sizes[a];
        int rowB = rowOf(b);
        int endB = rowB + sizes[b];
        int most = sizes[a] + sizes[b];
        int i = rowA;
        int j = rowB;
        for (int n = 0; n < most && (i < endA || j < endB); n++) {
            if (j == endB || (i < endA && items[i] < items[j])) {
                draftOnlyInA(i, how);
                i++;
            } else if (i == endA || items[j] < items[i]) {
                draftOnlyInB(j, how);
                j++;
            } else {
                draftInBoth(i, j, how);
                i++;
                j++;
            }
        }
    }

    private void draftOnlyInA(int cell, int how) {
        if (how != IN_BOTH) {
            draft(items[cell], values[cell]);
        }
    }

    private void draftOnlyInB(int cell, int how) {
        if (how != IN_BOTH && how != NOT_IN_B) {
            draft(items[cell], values[cell]);
        }
    }

    private void draftInBoth(int cellA, int cellB, int how) {
        if (how == NOT_IN_B || how == IN_JUST_ONE) {
            return;
        }
        int v = values[cellA];
        if (how == VALUES_OF_B) {
            v = values[cellB];
        } else if (how == SUMS) {
            v = values[cellA] + values[cellB];
        }
        draft(items[cellA], v);
    }

    private void draftTally(int element, int index, int what) {
        int spot = keysBelow(draftItems, 0, draftSize, element);
        if (spot == draftSize || draftItems[spot] != element) {
            openDraftAt(spot, element);
        }
        draftValues[spot] = what == COUNTS ? draftValues[spot] + 1 : index;
    }

    // Fits: a list has no more elements than a draft has room for.
    private void openDraftAt(int spot, int element) {
        draft(element, 0);
        for (int n = draftSize - 1; n > spot; n--) {
            draftItems[n] = draftItems[n - 1];
            draftValues[n] = draftValues[n - 1];
        }
        draftItems[spot] = element;
        draftValues[spot] = 0;
    }

    private int shelve(int kind, int to) {
        int size = draftSize;
        if (size > (kind == MAP ? MOST_KEYS : MOST_ELEMENTS)) {
            return FULL;
        }
        int row = rowOf(to);
        for (int n = 0; n < size; n++) {
            items[row + n] = draftItems[n];
            values[row + n] = draftValues[n];
        }
        kinds[to] = kind;
        sizes[to] = size;
        return size;
    }
}
