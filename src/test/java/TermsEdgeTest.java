import java.util.ArrayList;
import java.util.List;

/** The boundary cases that "What it is", "Terms" and "Not promised" name for all promises: one test for each sentence. */
public final class TermsEdgeTest {
    private static final int BAD = PersistentShelf.BAD, KIND = PersistentShelf.KIND;
    private static final int INDEX = PersistentShelf.INDEX, FULL = PersistentShelf.FULL;
    private static final int MAP = PersistentShelf.MAP, LIST = PersistentShelf.LIST;
    private static final int LEAST = Integer.MIN_VALUE, MOST = Integer.MAX_VALUE;
    private static final int[] NO_PLACES = {-1, 8, LEAST, MOST};
    private static final int M = Stock.SMALL_MAP, L = Stock.SMALL_LIST, N = Stock.NONE;
    private static final int FULL_M = Stock.FULL_MAP, FULL_L = Stock.FULL_LIST, OTHER_M = Stock.OTHER_FULL_MAP;
    private static final int CALLS = 512;
    private static final Checks c = new Checks();

    public static void main(String[] args) {
        allOthersStay();
        theLastCallAnswers();
        whatTheLastButOneMadeIsThere();
        manyOperationsInOnePlace();
        eightPlacesOfFullLists();
        eightPlacesOfFullMaps();
        atMost24Keys();
        atMost48Elements();
        keysAndValuesAreInts();
        elementsAreIntsCountedFrom0();
        toMayBeOneOfThem();
        whatWasThereIsNoMore();
        theAnswerIsTheSize();
        refusedWithBadForAPlace();
        refusedWithBadForAnotherArgument();
        refusedWithKind();
        refusedWithIndex();
        refusedWithFull();
        badComesFirst();
        kindComesBeforeIndexAndFull();
        indexComesBeforeFull();
        fullCountsTheNewCollectionAlone();
        looksChangeNothing();
        c.end();
    }

    private static void allOthersStay() {
        c.promise("every operation makes a new one and all others stay as they are");
        String[] before = Stock.look(Stock.filled());
        for (Stock.Work work : Stock.WORKS) {
            for (int to = 0; to < 8; to++) {
                PersistentShelf x = Stock.filled();
                work.operation().into(x, to);
                c.unchanged(work.name() + " into " + to, before, Stock.look(x), to);
            }
        }
    }

    private static void theLastCallAnswers() {
        c.promise("An object is used for at most 512 calls");
        for (Stock.Work work : Stock.WORKS) {
            PersistentShelf x = Stock.filled();
            useUp(x, CALLS - 1 - Stock.CALLS_TO_FILL);
            c.due("the 512th call, " + work.name(), work.operation().into(x, N), work.size());
        }
        for (Stock.Row row : LOOKS) {
            PersistentShelf x = Stock.filled();
            useUp(x, CALLS - 1 - Stock.CALLS_TO_FILL);
            c.due("the 512th call, " + row.name(), row.call().on(x), row.due());
        }
    }

    private static final Stock.Row[] LOOKS = {
        new Stock.Row("value", x -> x.value(FULL_M, 230), 24),
        new Stock.Row("key", x -> x.key(FULL_M, 23), 230),
        new Stock.Row("at", x -> x.at(FULL_L, 47), 147),
        new Stock.Row("sum", x -> x.sum(FULL_L, 0, 48), 48 * 100 + 47 * 24),
        new Stock.Row("about kind", x -> x.about(FULL_L, 0), LIST),
        new Stock.Row("about size", x -> x.about(FULL_L, 1), 48),
        new Stock.Row("same", x -> x.same(FULL_L, FULL_L) ? 1 : 0, 1),
    };

    private static void whatTheLastButOneMadeIsThere() {
        c.promise("An object is used for at most 512 calls");
        for (Stock.Work work : Stock.WORKS) {
            PersistentShelf x = Stock.filled();
            useUp(x, CALLS - 2 - Stock.CALLS_TO_FILL);
            work.operation().into(x, N);
            c.due("the 512th call, after " + work.name(), x.about(N, 1), work.size());
        }
    }

    /** Makes so many calls, refused ones too, and leaves every place but NONE as it is. */
    private static void useUp(PersistentShelf x, int calls) {
        for (int n = 0; n < calls; n++) {
            switch (n % 6) {
                case 0: x.copy(FULL_L, N); break;
                case 1: x.join(N, N, N); break;
                case 2: x.turn(N, N); break;
                case 3: x.put(FULL_M, n, n, N); break;
                case 4: x.make(-1, LIST); break;
                default: x.insert(N, n, n, N);
            }
        }
    }

    private static void manyOperationsInOnePlace() {
        c.promise("An object is used for at most 512 calls");
        PersistentShelf x = new PersistentShelf();
        c.due("1st call", x.make(0, LIST), 0);
        for (int call = 2; call < CALLS; call++) {
            int size = x.insert(0, 0, call, 0);
            c.due(call + "th call", size, call - 1 > 48 ? FULL : call - 1);
        }
        c.due("512th call", x.sum(0, 0, 48), 48 * 2 + 47 * 24);
        PersistentShelf y = new PersistentShelf();
        c.due("1st call", y.make(0, MAP), 0);
        for (int call = 2; call < CALLS; call++) {
            c.due(call + "th call", y.put(0, call % 2, call, 0), call > 2 ? 2 : 1);
        }
        c.due("512th call", y.value(0, 1), CALLS - 1);
    }

    private static void eightPlacesOfFullLists() {
        c.promise("PLACES 0..7 each hold nothing, a MAP or a LIST");
        PersistentShelf x = new PersistentShelf();
        Stock.insertAll(x, 0, Stock.fullList());
        for (int place = 7; place >= 0; place--) {
            x.cut(0, 0, 1, place);
            c.due("the 48th into " + place, x.insert(place, 47, place, place), 48);
        }
        for (int place = 0; place < 8; place++) {
            int[] due = new int[48];
            System.arraycopy(Stock.fullList(), 1, due, 0, 47);
            due[47] = place;
            c.holdsList(x, "eight full lists", place, due);
        }
    }

    private static void eightPlacesOfFullMaps() {
        c.promise("PLACES 0..7 each hold nothing, a MAP or a LIST");
        PersistentShelf x = new PersistentShelf();
        Stock.putAll(x, 0, Stock.fullMap(0));
        for (int place = 7; place >= 0; place--) {
            c.due("another value into " + place, x.put(0, 230, -place, place), 24);
        }
        for (int place = 0; place < 8; place++) {
            int[] due = Stock.fullMap(0);
            due[47] = -place;
            c.holdsMap(x, "eight full maps", place, due);
        }
    }

    private static void atMost24Keys() {
        c.promise("a MAP (some KEYS, at most 24)");
        PersistentShelf x = new PersistentShelf();
        c.map(x, 0, Stock.fullMap(0));
        c.holdsMap(x, "24 keys", 0, Stock.fullMap(0));
        c.due("a 25th", x.put(0, 240, 25, 0), FULL);
        c.due("still 24", x.about(0, 1), 24);
    }

    private static void atMost48Elements() {
        c.promise("a LIST (at most 48 ints)");
        PersistentShelf x = new PersistentShelf();
        c.list(x, 0, Stock.fullList());
        c.holdsList(x, "48 elements", 0, Stock.fullList());
        c.due("a 49th", x.insert(0, 48, 148, 0), FULL);
        c.due("still 48", x.about(0, 1), 48);
    }

    private static void keysAndValuesAreInts() {
        c.promise("keys and values are ints");
        PersistentShelf x = new PersistentShelf();
        c.map(x, 0, 0, LEAST, MOST, 0, LEAST, MOST, -1, -1, 1, 1);
        c.holdsMap(x, "the ends of the ints", 0, LEAST, MOST, -1, -1, 0, LEAST, 1, 1, MOST, 0);
        c.map(x, 1, BAD, 1, KIND, 2, INDEX, 3, FULL, 4);
        c.holdsMap(x, "keys like refusals", 1, FULL, 4, INDEX, 3, KIND, 2, BAD, 1);
    }

    private static void elementsAreIntsCountedFrom0() {
        c.promise("a LIST (ints, counted from 0)");
        PersistentShelf x = new PersistentShelf();
        c.list(x, 0, MOST, LEAST, 0, -1, 1);
        c.due("element 0", x.at(0, 0), MOST);
        c.due("element 1", x.at(0, 1), LEAST);
        c.due("element 4", x.at(0, 4), 1);
        c.holdsList(x, "the ends of the ints", 0, MOST, LEAST, 0, -1, 1);
    }

    private static void toMayBeOneOfThem() {
        c.promise("the place 'to', which may be one of them");
        mapsInPlace();
        listsInPlace();
        convertedInPlace();
    }

    private static void mapsInPlace() {
        PersistentShelf x = Stock.filled();
        c.due("copy", x.copy(M, M), 2);
        c.holdsMap(x, "copy", M, 1, 10, 5, 50);
        c.due("put a new least key", x.put(M, 0, 7, M), 3);
        c.holdsMap(x, "put", M, 0, 7, 1, 10, 5, 50);
        c.due("remove the least key", x.remove(M, 0, M), 2);
        c.holdsMap(x, "remove", M, 1, 10, 5, 50);
        c.map(x, N, 0, 1, 1, 2, 9, 3);
        c.due("merge into a", x.merge(M, N, 2, M), 4);
        c.holdsMap(x, "merge into a", M, 0, 1, 1, 12, 5, 50, 9, 3);
        c.due("merge into b", x.merge(M, N, 5, N), 1);
        c.holdsMap(x, "merge into b", N, 5, 50);
        c.due("merge of a place with itself into it", x.merge(M, M, 2, M), 4);
        c.holdsMap(x, "merge with itself", M, 0, 2, 1, 24, 5, 100, 9, 6);
    }

    private static void listsInPlace() {
        PersistentShelf x = Stock.filled();
        c.due("copy", x.copy(L, L), 3);
        c.holdsList(x, "copy", L, 3, 4, 3);
        c.due("insert", x.insert(L, 0, 9, L), 4);
        c.holdsList(x, "insert", L, 9, 3, 4, 3);
        c.due("cut", x.cut(L, 1, 2, L), 3);
        c.holdsList(x, "cut", L, 9, 4, 3);
        c.due("part", x.part(L, 1, 3, L), 2);
        c.holdsList(x, "part", L, 4, 3);
        c.list(x, N, 7, 8, 9);
        c.due("join into b", x.join(L, N, N), 5);
        c.holdsList(x, "join into b", N, 4, 3, 7, 8, 9);
        c.due("join into a", x.join(N, L, N), 7);
        c.holdsList(x, "join into a", N, 4, 3, 7, 8, 9, 4, 3);
        c.due("join of a place with itself into it", x.join(L, L, L), 4);
        c.holdsList(x, "join with itself", L, 4, 3, 4, 3);
        c.due("turn", x.turn(N, N), 7);
        c.holdsList(x, "turn", N, 3, 4, 9, 8, 7, 3, 4);
    }

    private static void convertedInPlace() {
        int[][] due = {{1, 5}, {10, 50}, {3, 2, 4, 1}, {3, 2, 4, 1}};
        for (int what = 0; what < 4; what++) {
            PersistentShelf x = Stock.filled();
            int place = what < 2 ? M : L;
            c.due("convert " + what, x.convert(place, what, place), 2);
            if (what < 2) {
                c.holdsList(x, "convert " + what, place, due[what]);
            } else {
                c.holdsMap(x, "convert " + what, place, due[what]);
            }
        }
    }

    private static void whatWasThereIsNoMore() {
        c.promise("what was there is on the shelf no more");
        for (Stock.Work work : Stock.WORKS) {
            PersistentShelf plain = Stock.filled();
            work.operation().into(plain, N);
            String due = Stock.look(plain, N);
            for (int to = 0; to < 8; to++) {
                PersistentShelf x = Stock.filled();
                work.operation().into(x, to);
                c.due(work.name() + " into " + to, Stock.look(x, to), due);
                c.due(work.name() + ", none past the last key", x.key(to, work.size()), 0);
                c.due(work.name() + ", none past the last element", x.at(to, work.size()), 0);
            }
        }
    }

    private static void theAnswerIsTheSize() {
        c.promise("Answers of operations: the size (number of keys or elements) of the new collection");
        for (Stock.Work work : Stock.WORKS) {
            for (int to = 0; to < 8; to++) {
                PersistentShelf x = Stock.filled();
                c.due(work.name() + " into " + to, work.operation().into(x, to), work.size());
                c.due("size after " + work.name(), x.about(to, 1), work.size());
            }
        }
    }

    private static void refusedWithBadForAPlace() {
        c.promise("What is refused changes nothing: BAD, a place that is not 0..7");
        List<Stock.Row> rows = new ArrayList<>();
        for (int p : NO_PLACES) {
            for (Stock.Work work : Stock.WORKS) {
                rows.add(new Stock.Row(work.name() + " into " + p, x -> work.operation().into(x, p), BAD));
            }
            rows.add(new Stock.Row("copy from " + p, x -> x.copy(p, M), BAD));
            rows.add(new Stock.Row("put from " + p, x -> x.put(p, 1, 1, M), BAD));
            rows.add(new Stock.Row("remove from " + p, x -> x.remove(p, 1, M), BAD));
            for (int how = 0; how < 6; how++) {
                int h = how;
                rows.add(new Stock.Row("merge " + h + ", a " + p, x -> x.merge(p, M, h, M), BAD));
                rows.add(new Stock.Row("merge " + h + ", b " + p, x -> x.merge(M, p, h, M), BAD));
            }
            rows.add(new Stock.Row("insert from " + p, x -> x.insert(p, 0, 1, L), BAD));
            rows.add(new Stock.Row("cut from " + p, x -> x.cut(p, 0, 0, L), BAD));
            rows.add(new Stock.Row("part from " + p, x -> x.part(p, 0, 0, L), BAD));
            rows.add(new Stock.Row("join, a " + p, x -> x.join(p, L, L), BAD));
            rows.add(new Stock.Row("join, b " + p, x -> x.join(L, p, L), BAD));
            rows.add(new Stock.Row("turn from " + p, x -> x.turn(p, L), BAD));
            for (int what = 0; what < 4; what++) {
                int w = what;
                rows.add(new Stock.Row("convert " + w + " from " + p, x -> x.convert(p, w, L), BAD));
            }
        }
        refused(rows);
    }

    private static void refusedWithBadForAnotherArgument() {
        c.promise("What is refused changes nothing: BAD, another argument out of its range");
        List<Stock.Row> rows = new ArrayList<>();
        for (int kind : new int[] {-1, 3, LEAST, MOST}) {
            rows.add(new Stock.Row("make of kind " + kind, x -> x.make(M, kind), BAD));
        }
        for (int how : new int[] {-1, 6, LEAST, MOST}) {
            rows.add(new Stock.Row("merge how " + how, x -> x.merge(M, FULL_M, how, M), BAD));
        }
        for (int what : new int[] {-1, 4, LEAST, MOST}) {
            rows.add(new Stock.Row("convert a map, what " + what, x -> x.convert(M, what, M), BAD));
            rows.add(new Stock.Row("convert a list, what " + what, x -> x.convert(L, what, L), BAD));
        }
        refused(rows);
    }

    private static void refusedWithKind() {
        c.promise("What is refused changes nothing: KIND, a place that must hold a map or a list and doesn't");
        List<Stock.Row> rows = new ArrayList<>();
        for (int p : new int[] {N, L, FULL_L, Stock.EMPTY_LIST}) {
            rows.add(new Stock.Row("put from " + p, x -> x.put(p, 3, 1, M), KIND));
            rows.add(new Stock.Row("remove from " + p, x -> x.remove(p, 3, M), KIND));
            for (int how = 0; how < 6; how++) {
                int h = how;
                rows.add(new Stock.Row("merge " + h + ", a " + p, x -> x.merge(p, M, h, M), KIND));
                rows.add(new Stock.Row("merge " + h + ", b " + p, x -> x.merge(M, p, h, M), KIND));
            }
            rows.add(new Stock.Row("keys of " + p, x -> x.convert(p, 0, M), KIND));
            rows.add(new Stock.Row("values of " + p, x -> x.convert(p, 1, M), KIND));
        }
        for (int p : new int[] {N, M, FULL_M, Stock.EMPTY_MAP}) {
            rows.add(new Stock.Row("insert from " + p, x -> x.insert(p, 0, 1, L), KIND));
            rows.add(new Stock.Row("cut from " + p, x -> x.cut(p, 0, 0, L), KIND));
            rows.add(new Stock.Row("part from " + p, x -> x.part(p, 0, 0, L), KIND));
            rows.add(new Stock.Row("join, a " + p, x -> x.join(p, L, L), KIND));
            rows.add(new Stock.Row("join, b " + p, x -> x.join(L, p, L), KIND));
            rows.add(new Stock.Row("turn from " + p, x -> x.turn(p, L), KIND));
            rows.add(new Stock.Row("counts of " + p, x -> x.convert(p, 2, L), KIND));
            rows.add(new Stock.Row("last indexes of " + p, x -> x.convert(p, 3, L), KIND));
        }
        for (int to = 0; to < 8; to++) {
            int p = to;
            rows.add(new Stock.Row("copy of nothing to " + p, x -> x.copy(N, p), KIND));
        }
        refused(rows);
    }

    private static void refusedWithIndex() {
        c.promise("What is refused changes nothing: INDEX, an index that is not as said");
        List<Stock.Row> rows = new ArrayList<>();
        for (int i : new int[] {-1, 4, 48, LEAST, MOST}) {
            rows.add(new Stock.Row("insert before " + i, x -> x.insert(L, i, 1, L), INDEX));
            rows.add(new Stock.Row("insert before " + i, x -> x.insert(L, i, 1, M), INDEX));
        }
        int[][] ranges = {{-1, 0}, {-1, 3}, {1, 0}, {3, 2}, {0, 4}, {4, 4}, {-1, -1}, {LEAST, MOST}, {MOST, LEAST}, {MOST, MOST}};
        for (int[] r : ranges) {
            String range = r[0] + " up to before " + r[1];
            rows.add(new Stock.Row("cut " + range, x -> x.cut(L, r[0], r[1], L), INDEX));
            rows.add(new Stock.Row("part " + range, x -> x.part(L, r[0], r[1], L), INDEX));
            rows.add(new Stock.Row("cut " + range, x -> x.cut(L, r[0], r[1], M), INDEX));
            rows.add(new Stock.Row("part " + range, x -> x.part(L, r[0], r[1], M), INDEX));
        }
        refused(rows);
    }

    private static void refusedWithFull() {
        c.promise("What is refused changes nothing: FULL, more than 24 keys or 48 elements");
        List<Stock.Row> rows = new ArrayList<>();
        for (int to = 0; to < 8; to++) {
            int p = to;
            rows.add(new Stock.Row("put into " + p, x -> x.put(FULL_M, -1, 1, p), FULL));
            for (int how : new int[] {0, 1, 2, 5}) {
                rows.add(new Stock.Row("merge " + how + " into " + p, x -> x.merge(FULL_M, OTHER_M, how, p), FULL));
            }
            rows.add(new Stock.Row("insert into " + p, x -> x.insert(FULL_L, 0, 1, p), FULL));
            rows.add(new Stock.Row("join into " + p, x -> x.join(L, FULL_L, p), FULL));
            rows.add(new Stock.Row("join 96 into " + p, x -> x.join(FULL_L, FULL_L, p), FULL));
            rows.add(new Stock.Row("counts into " + p, x -> x.convert(FULL_L, 2, p), FULL));
            rows.add(new Stock.Row("last indexes into " + p, x -> x.convert(FULL_L, 3, p), FULL));
        }
        refused(rows);
    }

    private static void badComesFirst() {
        c.promise("the first of these holds: BAD before KIND, INDEX and FULL");
        c.refused(
            new Stock.Row("make, both arguments", x -> x.make(8, 3), BAD),
            new Stock.Row("copy nothing", x -> x.copy(N, 8), BAD),
            new Stock.Row("put, KIND too", x -> x.put(L, 1, 1, 8), BAD),
            new Stock.Row("put, FULL too", x -> x.put(FULL_M, -1, 1, 8), BAD),
            new Stock.Row("remove, KIND too", x -> x.remove(L, 1, 8), BAD),
            new Stock.Row("merge, KIND of a too, b", x -> x.merge(L, 8, 0, M), BAD),
            new Stock.Row("merge, KIND of b too, a", x -> x.merge(8, L, 0, M), BAD),
            new Stock.Row("merge, KIND too, how", x -> x.merge(L, L, 6, M), BAD),
            new Stock.Row("merge, KIND too, to", x -> x.merge(L, L, 0, 8), BAD),
            new Stock.Row("merge, FULL too, how", x -> x.merge(FULL_M, OTHER_M, 6, M), BAD),
            new Stock.Row("merge, FULL too, to", x -> x.merge(FULL_M, OTHER_M, 0, 8), BAD),
            new Stock.Row("insert, KIND too", x -> x.insert(M, 0, 1, 8), BAD),
            new Stock.Row("insert, INDEX too, from", x -> x.insert(8, -1, 1, L), BAD),
            new Stock.Row("insert, INDEX too, to", x -> x.insert(L, -1, 1, 8), BAD),
            new Stock.Row("insert, FULL too", x -> x.insert(FULL_L, 0, 1, 8), BAD),
            new Stock.Row("cut, KIND too", x -> x.cut(M, 0, 0, 8), BAD),
            new Stock.Row("cut, INDEX too, from", x -> x.cut(8, 1, 0, L), BAD),
            new Stock.Row("cut, INDEX too, to", x -> x.cut(L, 1, 0, 8), BAD),
            new Stock.Row("part, KIND too", x -> x.part(M, 0, 0, 8), BAD),
            new Stock.Row("part, INDEX too, from", x -> x.part(8, 1, 0, L), BAD),
            new Stock.Row("part, INDEX too, to", x -> x.part(L, 1, 0, 8), BAD),
            new Stock.Row("join, KIND of a too, b", x -> x.join(M, 8, L), BAD),
            new Stock.Row("join, KIND of b too, a", x -> x.join(8, M, L), BAD),
            new Stock.Row("join, KIND too, to", x -> x.join(M, M, 8), BAD),
            new Stock.Row("join, FULL too", x -> x.join(FULL_L, L, 8), BAD),
            new Stock.Row("turn, KIND too", x -> x.turn(M, 8), BAD),
            new Stock.Row("convert, KIND too, what", x -> x.convert(N, 4, L), BAD),
            new Stock.Row("convert, KIND too, to", x -> x.convert(M, 2, 8), BAD),
            new Stock.Row("convert, FULL too, what", x -> x.convert(FULL_L, -1, L), BAD),
            new Stock.Row("convert, FULL too, to", x -> x.convert(FULL_L, 3, 8), BAD));
    }

    private static void kindComesBeforeIndexAndFull() {
        c.promise("the first of these holds: KIND before INDEX and FULL");
        c.refused(
            new Stock.Row("insert into a map, INDEX too", x -> x.insert(M, -1, 1, L), KIND),
            new Stock.Row("insert into nothing, INDEX too", x -> x.insert(N, 1, 1, L), KIND),
            new Stock.Row("cut a map, INDEX too", x -> x.cut(M, 1, 0, L), KIND),
            new Stock.Row("cut nothing, INDEX too", x -> x.cut(N, 0, 1, L), KIND),
            new Stock.Row("part of a map, INDEX too", x -> x.part(M, 1, 0, L), KIND),
            new Stock.Row("part of nothing, INDEX too", x -> x.part(N, 0, 1, L), KIND),
            new Stock.Row("join of a full list and a full map", x -> x.join(FULL_L, FULL_M, L), KIND),
            new Stock.Row("join of a full map and a full list", x -> x.join(FULL_M, FULL_L, L), KIND),
            new Stock.Row("merge of a full map and a full list", x -> x.merge(FULL_M, FULL_L, 0, M), KIND),
            new Stock.Row("merge of a full list and a full map", x -> x.merge(FULL_L, FULL_M, 0, M), KIND));
    }

    private static void indexComesBeforeFull() {
        c.promise("the first of these holds: INDEX before FULL");
        c.refused(
            new Stock.Row("insert before -1 into a full list", x -> x.insert(FULL_L, -1, 1, L), INDEX),
            new Stock.Row("insert before 49 into a full list", x -> x.insert(FULL_L, 49, 1, L), INDEX));
    }

    private static void fullCountsTheNewCollectionAlone() {
        c.promise("FULL, the new collection would have more than 24 keys or 48 elements");
        PersistentShelf x = Stock.filled();
        c.due("put of a key that a full map has", x.put(FULL_M, 0, 9, N), 24);
        c.due("remove from a full map", x.remove(FULL_M, -1, N), 24);
        c.due("full maps with all keys in both", x.merge(FULL_M, FULL_M, 0, N), 24);
        c.due("full maps with no key in both", x.merge(FULL_M, OTHER_M, 3, N), 0);
        c.due("a full map without the keys of another", x.merge(FULL_M, OTHER_M, 4, N), 24);
        c.due("a full map's own keys twice", x.merge(FULL_M, FULL_M, 5, N), 0);
        c.due("a full list and an empty one", x.join(FULL_L, Stock.EMPTY_LIST, N), 48);
        c.due("an empty list and a full one", x.join(Stock.EMPTY_LIST, FULL_L, N), 48);
        c.due("a full list turned", x.turn(FULL_L, N), 48);
        c.due("a full list whole", x.part(FULL_L, 0, 48, N), 48);
        c.due("a full list uncut", x.cut(FULL_L, 48, 48, N), 48);
        c.due("a full list copied", x.copy(FULL_L, N), 48);
        c.due("half of it", x.part(FULL_L, 0, 24, N), 24);
        c.due("twice", x.join(N, N, N), 48);
        c.due("a full list of 24 different elements", x.convert(N, 2, N), 24);
    }

    private static void looksChangeNothing() {
        c.promise("Nothing beyond the answers and state changes described: a look changes nothing");
        c.refused(LOOKS);
        for (int place : new int[] {M, L, N, FULL_M, FULL_L, -1, 8}) {
            lookAround(place);
        }
    }

    /** Looks from a place, right and wrong ones: the answers are tested with each promise. */
    private static void lookAround(int place) {
        PersistentShelf x = Stock.filled();
        String[] before = Stock.look(Stock.filled());
        for (int n : new int[] {LEAST, -1, 0, 1, 24, 48, MOST}) {
            x.value(place, n);
            x.key(place, n);
            x.at(place, n);
            x.sum(place, n, MOST);
            x.sum(place, LEAST, n);
            x.about(place, n);
            x.same(place, n);
            x.same(n, place);
        }
        c.unchanged("looks from " + place, before, Stock.look(x), -1);
    }

    private static void refused(List<Stock.Row> rows) {
        c.refused(rows.toArray(new Stock.Row[0]));
    }
}
