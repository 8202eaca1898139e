/** The boundary cases that promises 9 to 16 name: one test for each sentence. */
public final class ListEdgeTest {
    private static final int BAD = PersistentShelf.BAD, KIND = PersistentShelf.KIND;
    private static final int INDEX = PersistentShelf.INDEX, FULL = PersistentShelf.FULL;
    private static final int LEAST = Integer.MIN_VALUE, MOST = Integer.MAX_VALUE;
    private static final int[] NO_PLACES = {-1, 8, LEAST, MOST};
    private static final int MAP = Stock.SMALL_MAP, SMALL = Stock.SMALL_LIST, NONE = Stock.NONE, EMPTY = Stock.EMPTY_LIST;
    private static final int ALL = Stock.FULL_LIST, ALL_KEYS = Stock.FULL_MAP;
    private static final Checks c = new Checks();

    public static void main(String[] args) {
        insertBeforeEveryElement();
        insertUpToTheSize();
        insertOfThe48thAnd49th();
        cutOfEveryRange();
        partOfEveryRange();
        rangesOutside();
        rangesOfTheEmptyList();
        rangesOfTheFullList();
        joinInOrder();
        joinWithAnEmptyList();
        joinOf48And49();
        turnTheOtherWayRound();
        turnOfAnEmptyList();
        atEveryElement();
        atIfThereIsNone();
        atWhereRefused();
        sumOfEveryRange();
        sumBeyondTheInts();
        sumOfElementsThatAreNotThere();
        sumWhereRefused();
        convertToKeys();
        convertToValues();
        convertToCounts();
        convertToLastIndexes();
        convertOfEmptyCollections();
        convertTo24And25Keys();
        convertOfTheOtherKind();
        convertBadForOtherWhats();
        c.end();
    }

    private static void insertBeforeEveryElement() {
        c.promise("promise 9: The list with v before element i");
        for (int i = 0; i < 3; i++) {
            PersistentShelf x = Stock.filled();
            c.due("before " + i, x.insert(SMALL, i, 9, NONE), 4);
            int[] due = i == 0 ? new int[] {9, 3, 4, 3} : i == 1 ? new int[] {3, 9, 4, 3} : new int[] {3, 4, 9, 3};
            c.holdsList(x, "before " + i, NONE, due);
        }
    }

    private static void insertUpToTheSize() {
        c.promise("promise 9: (i up to its size)");
        PersistentShelf x = Stock.filled();
        c.due("at the size", x.insert(SMALL, 3, 9, NONE), 4);
        c.holdsList(x, "at the size", NONE, 3, 4, 3, 9);
        c.due("one further", x.insert(SMALL, 4, 9, NONE), INDEX);
        c.due("one too small", x.insert(SMALL, -1, 9, NONE), INDEX);
        c.due("far too great", x.insert(SMALL, MOST, 9, NONE), INDEX);
        c.due("far too small", x.insert(SMALL, LEAST, 9, NONE), INDEX);
        c.due("an empty list, at its size", x.insert(EMPTY, 0, 9, NONE), 1);
        c.holdsList(x, "an empty list", NONE, 9);
        c.due("an empty list, one further", x.insert(EMPTY, 1, 9, NONE), INDEX);
        c.due("an empty list, one too small", x.insert(EMPTY, -1, 9, NONE), INDEX);
    }

    private static void insertOfThe48thAnd49th() {
        c.promise("promise 9: FULL, more than 48 elements");
        for (int i : new int[] {0, 20, 47}) {
            PersistentShelf x = Stock.filled();
            x.cut(ALL, i, i + 1, NONE);
            c.due("the 48th, before " + i, x.insert(NONE, i, 100 + i, NONE), 48);
            c.holdsList(x, "the 48th, before " + i, NONE, Stock.fullList());
            c.due("the 49th, before " + i, x.insert(NONE, i, 9, NONE), FULL);
        }
        PersistentShelf x = Stock.filled();
        c.due("the 49th, at the end", x.insert(ALL, 48, 9, NONE), FULL);
    }

    private static void cutOfEveryRange() {
        c.promise("promise 10: The list without its elements i up to before j (0 <= i <= j <= its size)");
        for (int i = -1; i <= 4; i++) {
            for (int j = -1; j <= 4; j++) {
                PersistentShelf x = Stock.filled();
                boolean fits = 0 <= i && i <= j && j <= 3;
                String call = "cut " + i + " up to before " + j;
                c.due(call, x.cut(SMALL, i, j, NONE), fits ? 3 - (j - i) : INDEX);
                int at = 0;
                for (int n = 0; n < 3 && fits; n++) {
                    if (n < i || n >= j) {
                        c.due(call, x.at(NONE, at), x.at(SMALL, n));
                        at++;
                    }
                }
                c.due(call + ", the kind", x.about(NONE, 0), fits ? PersistentShelf.LIST : PersistentShelf.NOTHING);
            }
        }
    }

    private static void partOfEveryRange() {
        c.promise("promise 11: Just the elements i up to before j (likewise)");
        for (int i = -1; i <= 4; i++) {
            for (int j = -1; j <= 4; j++) {
                PersistentShelf x = Stock.filled();
                boolean fits = 0 <= i && i <= j && j <= 3;
                String call = "part " + i + " up to before " + j;
                c.due(call, x.part(SMALL, i, j, NONE), fits ? j - i : INDEX);
                for (int n = i; n < j && fits; n++) {
                    c.due(call, x.at(NONE, n - i), x.at(SMALL, n));
                }
                c.due(call + ", the kind", x.about(NONE, 0), fits ? PersistentShelf.LIST : PersistentShelf.NOTHING);
            }
        }
    }

    private static void rangesOutside() {
        c.promise("promises 10 and 11: (0 <= i <= j <= its size)");
        PersistentShelf x = Stock.filled();
        int[][] ranges = {{LEAST, MOST}, {MOST, LEAST}, {LEAST, LEAST}, {MOST, MOST}, {LEAST, 1}, {1, MOST}, {0, 48}, {-3, 3}};
        for (int[] r : ranges) {
            c.due("cut " + r[0] + " up to before " + r[1], x.cut(SMALL, r[0], r[1], SMALL), INDEX);
            c.due("part " + r[0] + " up to before " + r[1], x.part(SMALL, r[0], r[1], SMALL), INDEX);
        }
        c.holdsList(x, "after refusals", SMALL, 3, 4, 3);
    }

    private static void rangesOfTheEmptyList() {
        c.promise("promises 10 and 11: (0 <= i <= j <= its size), of an empty list");
        PersistentShelf x = Stock.filled();
        c.due("cut 0 up to before 0", x.cut(EMPTY, 0, 0, NONE), 0);
        c.holdsList(x, "cut", NONE);
        x.make(NONE, PersistentShelf.NOTHING);
        c.due("part 0 up to before 0", x.part(EMPTY, 0, 0, NONE), 0);
        c.holdsList(x, "part", NONE);
        for (int[] r : new int[][] {{0, 1}, {1, 1}, {-1, 0}, {0, -1}, {-1, -1}}) {
            c.due("cut " + r[0] + " up to before " + r[1], x.cut(EMPTY, r[0], r[1], NONE), INDEX);
            c.due("part " + r[0] + " up to before " + r[1], x.part(EMPTY, r[0], r[1], NONE), INDEX);
        }
    }

    private static void rangesOfTheFullList() {
        c.promise("promises 10 and 11: (0 <= i <= j <= its size), of a full list");
        PersistentShelf x = Stock.filled();
        c.due("cut of all", x.cut(ALL, 0, 48, NONE), 0);
        c.due("cut of all", x.same(NONE, EMPTY), true);
        c.due("cut of none, at the end", x.cut(ALL, 48, 48, NONE), 48);
        c.due("cut of none, at the end", x.same(NONE, ALL), true);
        c.due("cut of none, at the start", x.cut(ALL, 0, 0, NONE), 48);
        c.due("cut of none, at the start", x.same(NONE, ALL), true);
        c.due("part of all", x.part(ALL, 0, 48, NONE), 48);
        c.due("part of all", x.same(NONE, ALL), true);
        c.due("part of the last", x.part(ALL, 47, 48, NONE), 1);
        c.holdsList(x, "part of the last", NONE, 147);
        c.due("part of none, at the end", x.part(ALL, 48, 48, NONE), 0);
        c.due("part of none, at the end", x.same(NONE, EMPTY), true);
        for (int[] r : new int[][] {{0, 49}, {48, 49}, {49, 49}, {48, 47}, {-1, 48}}) {
            c.due("cut " + r[0] + " up to before " + r[1], x.cut(ALL, r[0], r[1], NONE), INDEX);
            c.due("part " + r[0] + " up to before " + r[1], x.part(ALL, r[0], r[1], NONE), INDEX);
        }
    }

    private static void joinInOrder() {
        c.promise("promise 12: The list a, then the list b");
        PersistentShelf x = Stock.filled();
        c.list(x, NONE, 7, 8);
        c.due("a, then b", x.join(SMALL, NONE, MAP), 5);
        c.holdsList(x, "a, then b", MAP, 3, 4, 3, 7, 8);
        c.due("b, then a", x.join(NONE, SMALL, MAP), 5);
        c.holdsList(x, "b, then a", MAP, 7, 8, 3, 4, 3);
        c.due("a, then a", x.join(SMALL, SMALL, MAP), 6);
        c.holdsList(x, "a, then a", MAP, 3, 4, 3, 3, 4, 3);
    }

    private static void joinWithAnEmptyList() {
        c.promise("promise 12: The list a, then the list b, one of them empty");
        PersistentShelf x = Stock.filled();
        c.due("b is empty", x.join(ALL, EMPTY, NONE), 48);
        c.due("b is empty", x.same(NONE, ALL), true);
        c.due("a is empty", x.join(EMPTY, ALL, NONE), 48);
        c.due("a is empty", x.same(NONE, ALL), true);
        c.due("both are empty", x.join(EMPTY, EMPTY, NONE), 0);
        c.due("both are empty", x.same(NONE, EMPTY), true);
    }

    private static void joinOf48And49() {
        c.promise("promise 12: FULL, more than 48 elements");
        PersistentShelf x = Stock.filled();
        x.part(ALL, 0, 45, NONE);
        c.due("45 and 3", x.join(NONE, SMALL, MAP), 48);
        c.due("the last of b", x.at(MAP, 47), 3);
        c.due("3 and 45", x.join(SMALL, NONE, MAP), 48);
        c.due("the last of b", x.at(MAP, 47), 144);
        x.part(ALL, 0, 46, NONE);
        c.due("46 and 3", x.join(NONE, SMALL, MAP), FULL);
        c.due("3 and 46", x.join(SMALL, NONE, MAP), FULL);
        c.due("48 and 48", x.join(ALL, ALL, MAP), FULL);
        c.due("after refusals", x.at(MAP, 47), 144);
    }

    private static void turnTheOtherWayRound() {
        c.promise("promise 13: The list the other way round");
        PersistentShelf x = Stock.filled();
        c.due("48 elements", x.turn(ALL, NONE), 48);
        for (int n = 0; n < 48; n++) {
            c.due("element " + n, x.at(NONE, n), 147 - n);
        }
        c.list(x, NONE, LEAST);
        c.due("one element", x.turn(NONE, NONE), 1);
        c.holdsList(x, "one element", NONE, LEAST);
        c.list(x, NONE, 1, 2);
        c.due("two elements", x.turn(NONE, NONE), 2);
        c.holdsList(x, "two elements", NONE, 2, 1);
    }

    private static void turnOfAnEmptyList() {
        c.promise("promise 13: The list the other way round, an empty one");
        PersistentShelf x = Stock.filled();
        c.due("into nothing", x.turn(EMPTY, NONE), 0);
        c.holdsList(x, "into nothing", NONE);
        c.due("over a full list", x.turn(EMPTY, ALL), 0);
        c.holdsList(x, "over a full list", ALL);
    }

    private static void atEveryElement() {
        c.promise("promise 14: Element i of a list");
        PersistentShelf x = Stock.filled();
        for (int n = 0; n < 48; n++) {
            c.due("element " + n, x.at(ALL, n), 100 + n);
        }
    }

    private static void atIfThereIsNone() {
        c.promise("promise 14: 0 if there is none");
        PersistentShelf x = Stock.filled();
        for (int i : new int[] {LEAST, -1, 48, 49, MOST}) {
            c.due("element " + i + " of 48", x.at(ALL, i), 0);
            c.due("element " + i + " of none", x.at(EMPTY, i), 0);
        }
        c.due("element 0 of none", x.at(EMPTY, 0), 0);
        c.due("element 3 of 3", x.at(SMALL, 3), 0);
        x.cut(ALL, 10, 48, ALL);
        c.due("element 10 of 10", x.at(ALL, 10), 0);
        c.due("element 47 of 10", x.at(ALL, 47), 0);
    }

    private static void atWhereRefused() {
        c.promise("promise 14: 0 where an operation would be refused");
        PersistentShelf x = Stock.filled();
        for (int place : NO_PLACES) {
            c.due("place " + place, x.at(place, 0), 0);
            c.due("place " + place, x.at(place, -1), 0);
        }
        c.due("of a map", x.at(MAP, 0), 0);
        c.due("of a full map", x.at(ALL_KEYS, 23), 0);
        c.due("of nothing", x.at(NONE, 0), 0);
        x.make(ALL, PersistentShelf.NOTHING);
        c.due("of nothing where a list was", x.at(ALL, 0), 0);
        x.convert(SMALL, 2, SMALL);
        c.due("of a map where a list was", x.at(SMALL, 0), 0);
    }

    private static void sumOfEveryRange() {
        c.promise("promise 15: The sum of the elements i up to before j of a list");
        PersistentShelf x = Stock.filled();
        int[] elements = {3, 4, 3};
        for (int i = 0; i <= 3; i++) {
            for (int j = i; j <= 3; j++) {
                long due = 0;
                for (int n = i; n < j; n++) {
                    due += elements[n];
                }
                c.due("sum " + i + " up to before " + j, x.sum(SMALL, i, j), due);
            }
        }
        c.due("of 48", x.sum(ALL, 0, 48), 48 * 100 + 47 * 24);
        c.due("the last of 48", x.sum(ALL, 47, 48), 147);
        c.due("of none", x.sum(EMPTY, 0, 0), 0);
    }

    private static void sumBeyondTheInts() {
        c.promise("promise 15: long sum(int from, int i, int j)");
        for (int element : new int[] {MOST, LEAST}) {
            PersistentShelf x = new PersistentShelf();
            x.make(0, PersistentShelf.LIST);
            for (int n = 0; n < 48; n++) {
                x.insert(0, n, element, 0);
            }
            c.due("two of " + element, x.sum(0, 0, 2), 2L * element);
            c.due("48 of " + element, x.sum(0, 0, 48), 48L * element);
        }
    }

    private static void sumOfElementsThatAreNotThere() {
        c.promise("promise 15: those that aren't there count nothing");
        PersistentShelf x = Stock.filled();
        c.due("from before the first", x.sum(SMALL, -1, 2), 7);
        c.due("to past the last", x.sum(SMALL, 1, 4), 7);
        c.due("both", x.sum(SMALL, LEAST, MOST), 10);
        c.due("just before the first", x.sum(SMALL, -1, 0), 0);
        c.due("just past the last", x.sum(SMALL, 3, 4), 0);
        c.due("far before the first", x.sum(SMALL, LEAST, LEAST + 1), 0);
        c.due("far past the last", x.sum(SMALL, MOST - 1, MOST), 0);
        c.due("i past j", x.sum(SMALL, 2, 1), 0);
        c.due("i far past j", x.sum(SMALL, MOST, LEAST), 0);
        c.due("of a full list", x.sum(ALL, -1, 49), 48 * 100 + 47 * 24);
        c.due("of an empty list", x.sum(EMPTY, LEAST, MOST), 0);
        x.cut(ALL, 1, 48, ALL);
        c.due("of a list that was full", x.sum(ALL, 0, 48), 100);
    }

    private static void sumWhereRefused() {
        c.promise("promise 15: 0 where an operation would be refused with KIND or BAD");
        PersistentShelf x = Stock.filled();
        for (int place : NO_PLACES) {
            c.due("place " + place, x.sum(place, 0, 3), 0);
            c.due("place " + place, x.sum(place, LEAST, MOST), 0);
        }
        c.due("of a map", x.sum(MAP, 0, 2), 0);
        c.due("of a full map", x.sum(ALL_KEYS, LEAST, MOST), 0);
        c.due("of nothing", x.sum(NONE, 0, 1), 0);
        x.make(ALL, PersistentShelf.NOTHING);
        c.due("of nothing where a list was", x.sum(ALL, 0, 48), 0);
    }

    private static void convertToKeys() {
        c.promise("promise 16: what 0: the map's keys by rising size as a list");
        PersistentShelf x = Stock.filled();
        c.map(x, NONE, MOST, 1, 0, 2, LEAST, 3, -1, 4);
        c.due("the ends of the ints", x.convert(NONE, 0, MAP), 4);
        c.holdsList(x, "the ends of the ints", MAP, LEAST, -1, 0, MOST);
        c.due("24 keys", x.convert(ALL_KEYS, 0, MAP), 24);
        for (int n = 0; n < 24; n++) {
            c.due("element " + n, x.at(MAP, n), 10 * n);
        }
    }

    private static void convertToValues() {
        c.promise("promise 16: 1: its values in the order of their keys");
        PersistentShelf x = Stock.filled();
        c.map(x, NONE, MOST, 1, 0, 2, LEAST, 3, -1, 2);
        c.due("a value twice", x.convert(NONE, 1, MAP), 4);
        c.holdsList(x, "a value twice", MAP, 3, 2, 2, 1);
        c.due("24 values", x.convert(ALL_KEYS, 1, MAP), 24);
        for (int n = 0; n < 24; n++) {
            c.due("element " + n, x.at(MAP, n), n + 1);
        }
    }

    private static void convertToCounts() {
        c.promise("promise 16: 2: from a list the map that has for every element how often it is there");
        PersistentShelf x = Stock.filled();
        c.list(x, NONE, 0, MOST, 0, LEAST, 0, MOST);
        c.due("the ends of the ints", x.convert(NONE, 2, MAP), 3);
        c.holdsMap(x, "the ends of the ints", MAP, LEAST, 1, 0, 3, MOST, 2);
        c.list(x, NONE, 5);
        for (int n = 0; n < 4; n++) {
            x.join(NONE, NONE, NONE);
        }
        x.join(NONE, NONE, MAP);
        x.join(NONE, MAP, NONE);
        c.due("one element 48 times", x.convert(NONE, 2, MAP), 1);
        c.holdsMap(x, "one element 48 times", MAP, 5, 48);
    }

    private static void convertToLastIndexes() {
        c.promise("promise 16: 3: from a list the map that has for every element the index of its last one");
        PersistentShelf x = Stock.filled();
        c.list(x, NONE, 0, MOST, 0, LEAST, 0, MOST);
        c.due("the ends of the ints", x.convert(NONE, 3, MAP), 3);
        c.holdsMap(x, "the ends of the ints", MAP, LEAST, 3, 0, 4, MOST, 5);
        c.list(x, NONE, 9);
        c.due("the first is the last", x.convert(NONE, 3, MAP), 1);
        c.holdsMap(x, "the first is the last", MAP, 9, 0);
        x.part(ALL, 0, 24, NONE);
        x.join(NONE, NONE, NONE);
        c.due("24 elements twice", x.convert(NONE, 3, MAP), 24);
        for (int n = 0; n < 24; n++) {
            c.due("last of " + (100 + n), x.value(MAP, 100 + n), 24 + n);
        }
    }

    private static void convertOfEmptyCollections() {
        c.promise("promise 16: of an empty map or list");
        for (int what = 0; what < 4; what++) {
            PersistentShelf x = Stock.filled();
            int from = what < 2 ? Stock.EMPTY_MAP : EMPTY;
            c.due("what " + what, x.convert(from, what, NONE), 0);
            c.due("what " + what, x.same(NONE, what < 2 ? EMPTY : Stock.EMPTY_MAP), true);
        }
    }

    private static void convertTo24And25Keys() {
        c.promise("promise 16: FULL, more than 24 keys");
        for (int what = 2; what < 4; what++) {
            PersistentShelf x = Stock.filled();
            x.part(ALL, 0, 24, NONE);
            c.due("24 different elements, what " + what, x.convert(NONE, what, MAP), 24);
            x.part(ALL, 0, 25, NONE);
            c.due("25 different elements, what " + what, x.convert(NONE, what, MAP), FULL);
            x.turn(NONE, NONE);
            c.due("25 falling elements, what " + what, x.convert(NONE, what, MAP), FULL);
            c.due("48 different elements, what " + what, x.convert(ALL, what, MAP), FULL);
            c.due("after refusals", x.about(MAP, 1), 24);
        }
    }

    private static void convertOfTheOtherKind() {
        c.promise("promise 16: what 0 and 1 from a map, 2 and 3 from a list");
        for (int what = 0; what < 4; what++) {
            int w = what;
            int full = what < 2 ? ALL : ALL_KEYS;
            int empty = what < 2 ? EMPTY : Stock.EMPTY_MAP;
            c.refused(
                new Stock.Row("the other kind, what " + w, x -> x.convert(full, w, MAP), KIND),
                new Stock.Row("the other kind, empty, what " + w, x -> x.convert(empty, w, MAP), KIND),
                new Stock.Row("nothing, what " + w, x -> x.convert(NONE, w, MAP), KIND));
        }
    }

    private static void convertBadForOtherWhats() {
        c.promise("promise 16: BAD for other whats");
        for (int what : new int[] {-1, 4, LEAST, MOST}) {
            c.refused(
                new Stock.Row("a map, what " + what, x -> x.convert(MAP, what, NONE), BAD),
                new Stock.Row("a list, what " + what, x -> x.convert(SMALL, what, NONE), BAD));
        }
    }
}
