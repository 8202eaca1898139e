/** The boundary cases that promises 4 to 8 name: one test for each sentence. */
public final class MapEdgeTest {
    private static final int BAD = PersistentShelf.BAD, FULL = PersistentShelf.FULL;
    private static final int LEAST = Integer.MIN_VALUE, MOST = Integer.MAX_VALUE;
    private static final int[] NO_PLACES = {-1, 8, LEAST, MOST};
    private static final int SMALL = Stock.SMALL_MAP, LIST = Stock.SMALL_LIST, NONE = Stock.NONE, EMPTY = Stock.EMPTY_MAP;
    private static final int ALL = Stock.FULL_MAP, OTHERS = Stock.OTHER_FULL_MAP;
    private static final Checks c = new Checks();

    public static void main(String[] args) {
        putOfAKeyThereBefore();
        putOfAKeyNotThereBefore();
        putOfThe24thAnd25thKey();
        putOfTheValue0();
        removeOfAKeyThatIsThere();
        removeOfAKeyThatIsNotThere();
        removeOfTheLastKey();
        mergeWithTheValuesOfA();
        mergeWithTheValuesOfB();
        mergeWithTheSums();
        mergeSumsWrap();
        mergeOfTheKeysInBoth();
        mergeOfTheKeysNotInB();
        mergeOfTheKeysInJustOne();
        mergeWithAnEmptyMap();
        mergeOf24And25Keys();
        mergeBadForOtherHows();
        valueOfAKey();
        valueOfNoKey();
        valueWhereRefused();
        keyBySize();
        keyIfThereIsNone();
        keyWhereRefused();
        c.end();
    }

    private static void putOfAKeyThereBefore() {
        c.promise("promise 4: The map with key k (there before) and value v");
        PersistentShelf x = Stock.filled();
        c.due("the least key", x.put(SMALL, 1, -3, NONE), 2);
        c.holdsMap(x, "the least key", NONE, 1, -3, 5, 50);
        c.due("the greatest key", x.put(SMALL, 5, -3, NONE), 2);
        c.holdsMap(x, "the greatest key", NONE, 1, 10, 5, -3);
        c.due("with its value", x.put(SMALL, 5, 50, NONE), 2);
        c.due("with its value", x.same(SMALL, NONE), true);
        for (int n = 0; n < 24; n++) {
            c.due("key " + 10 * n + " of a full map", x.put(ALL, 10 * n, -n, NONE), 24);
            c.due("its value", x.value(NONE, 10 * n), -n);
        }
    }

    private static void putOfAKeyNotThereBefore() {
        c.promise("promise 4: The map with key k (not there before) and value v");
        PersistentShelf x = Stock.filled();
        c.due("into an empty map", x.put(EMPTY, 0, 0, NONE), 1);
        c.holdsMap(x, "into an empty map", NONE, 0, 0);
        c.due("below all", x.put(SMALL, LEAST, MOST, NONE), 3);
        c.holdsMap(x, "below all", NONE, LEAST, MOST, 1, 10, 5, 50);
        c.due("between", x.put(SMALL, 2, LEAST, NONE), 3);
        c.holdsMap(x, "between", NONE, 1, 10, 2, LEAST, 5, 50);
        c.due("above all", x.put(SMALL, MOST, -1, NONE), 3);
        c.holdsMap(x, "above all", NONE, 1, 10, 5, 50, MOST, -1);
    }

    private static void putOfThe24thAnd25thKey() {
        c.promise("promise 4: FULL, more than 24 keys");
        PersistentShelf x = Stock.filled();
        for (int k : new int[] {LEAST, -1, 115, 231, MOST}) {
            x.remove(ALL, 110, NONE);
            c.due("the 24th key, " + k, x.put(NONE, k, 7, NONE), 24);
            c.due("the 24th key, " + k, x.value(NONE, k), 7);
            c.due("the 25th key, " + k, x.put(ALL, k, 7, NONE), FULL);
            c.due("the 25th key back, after " + k, x.put(NONE, 110, 7, NONE), FULL);
        }
    }

    private static void putOfTheValue0() {
        c.promise("promise 4: The map with key k and value v");
        PersistentShelf x = Stock.filled();
        c.due("a value 0", x.put(SMALL, 5, 0, NONE), 2);
        c.holdsMap(x, "its key stays", NONE, 1, 10, 5, 0);
        c.due("a new key with the value 0", x.put(SMALL, 3, 0, NONE), 3);
        c.holdsMap(x, "it is there", NONE, 1, 10, 3, 0, 5, 50);
    }

    private static void removeOfAKeyThatIsThere() {
        c.promise("promise 5: The map without key k");
        for (int gone = 0; gone < 24; gone++) {
            PersistentShelf x = Stock.filled();
            c.due("without " + 10 * gone, x.remove(ALL, 10 * gone, NONE), 23);
            for (int n = 0; n < 24; n++) {
                c.due("value of " + 10 * n, x.value(NONE, 10 * n), n == gone ? 0 : n + 1);
            }
            for (int n = 0; n < 23; n++) {
                c.due("key " + n, x.key(NONE, n), 10 * (n < gone ? n : n + 1));
            }
            c.due("no key more", x.key(NONE, 23), 0);
        }
    }

    private static void removeOfAKeyThatIsNotThere() {
        c.promise("promise 5: which need not be there");
        PersistentShelf x = Stock.filled();
        for (int k : new int[] {LEAST, -1, 1, 229, 231, MOST}) {
            c.due("without " + k + ", from a full map", x.remove(ALL, k, NONE), 24);
            c.due("all the others", x.same(ALL, NONE), true);
            c.due("without " + k + ", from an empty map", x.remove(EMPTY, k, NONE), 0);
            c.due("still a map", x.same(EMPTY, NONE), true);
        }
    }

    private static void removeOfTheLastKey() {
        c.promise("promise 5: The map without key k");
        PersistentShelf x = Stock.filled();
        c.due("two keys", x.remove(SMALL, 5, NONE), 1);
        c.due("one key", x.remove(NONE, 1, NONE), 0);
        c.holdsMap(x, "no key", NONE);
        c.due("once more", x.remove(NONE, 1, NONE), 0);
        c.holdsMap(x, "no key", NONE);
    }

    /** Into places 0 and 1, with keys in just one of them below, between and above the shared ones. */
    private static PersistentShelf twoMaps() {
        PersistentShelf x = new PersistentShelf();
        Stock.putAll(x, 0, LEAST, 1, 3, 2, 5, 3, 7, 4);
        Stock.putAll(x, 1, 3, 20, 4, 30, 7, 40, MOST, 50);
        return x;
    }

    private static void merged(int how, int... due) {
        PersistentShelf x = twoMaps();
        c.due("how " + how, x.merge(0, 1, how, 2), due.length / 2);
        c.holdsMap(x, "how " + how, 2, due);
    }

    private static void mergeWithTheValuesOfA() {
        c.promise("promise 6: how 0 all keys of both, with the value of a where both have it");
        merged(0, LEAST, 1, 3, 2, 4, 30, 5, 3, 7, 4, MOST, 50);
    }

    private static void mergeWithTheValuesOfB() {
        c.promise("promise 6: 1 the same with the value of b");
        merged(1, LEAST, 1, 3, 20, 4, 30, 5, 3, 7, 40, MOST, 50);
    }

    private static void mergeWithTheSums() {
        c.promise("promise 6: 2 the same with the sum of both");
        merged(2, LEAST, 1, 3, 22, 4, 30, 5, 3, 7, 44, MOST, 50);
    }

    private static void mergeSumsWrap() {
        c.promise("promise 6: 2 the sum of both (wrapping)");
        PersistentShelf x = new PersistentShelf();
        c.map(x, 0, 1, MOST, 2, LEAST, 3, LEAST, 4, MOST, 5, LEAST, 6, MOST);
        c.map(x, 1, 1, 1, 2, -1, 3, LEAST, 4, MOST, 5, MOST, 6, 0);
        c.due("sums", x.merge(0, 1, 2, 2), 6);
        c.holdsMap(x, "sums", 2, 1, LEAST, 2, MOST, 3, 0, 4, -2, 5, -1, 6, MOST);
    }

    private static void mergeOfTheKeysInBoth() {
        c.promise("promise 6: 3 the keys that both have, with a's values");
        merged(3, 3, 2, 7, 4);
        PersistentShelf x = Stock.filled();
        c.due("no key in both", x.merge(ALL, OTHERS, 3, NONE), 0);
        c.holdsMap(x, "no key in both", NONE);
        c.due("all keys in both", x.merge(ALL, ALL, 3, NONE), 24);
    }

    private static void mergeOfTheKeysNotInB() {
        c.promise("promise 6: 4 the keys of a that b has not");
        merged(4, LEAST, 1, 5, 3);
        PersistentShelf x = Stock.filled();
        c.due("no key in both", x.merge(ALL, OTHERS, 4, NONE), 24);
        c.due("all of a", x.same(ALL, NONE), true);
        c.due("all keys in both", x.merge(ALL, ALL, 4, NONE), 0);
        c.holdsMap(x, "all keys in both", NONE);
    }

    private static void mergeOfTheKeysInJustOne() {
        c.promise("promise 6: 5 the keys that just one has");
        merged(5, LEAST, 1, 4, 30, 5, 3, MOST, 50);
        PersistentShelf x = Stock.filled();
        c.due("all keys in both", x.merge(ALL, ALL, 5, NONE), 0);
        c.holdsMap(x, "all keys in both", NONE);
    }

    private static void mergeWithAnEmptyMap() {
        c.promise("promise 6: Two maps a, b");
        boolean[] keepsA = {true, true, true, false, true, true};
        boolean[] keepsB = {true, true, true, false, false, true};
        for (int how = 0; how < 6; how++) {
            PersistentShelf x = Stock.filled();
            c.due("b is empty, how " + how, x.merge(ALL, EMPTY, how, NONE), keepsA[how] ? 24 : 0);
            c.due("b is empty, how " + how, x.same(NONE, keepsA[how] ? ALL : EMPTY), true);
            c.due("a is empty, how " + how, x.merge(EMPTY, ALL, how, NONE), keepsB[how] ? 24 : 0);
            c.due("a is empty, how " + how, x.same(NONE, keepsB[how] ? ALL : EMPTY), true);
            c.due("both are empty, how " + how, x.merge(EMPTY, EMPTY, how, NONE), 0);
            c.due("both are empty, how " + how, x.same(NONE, EMPTY), true);
        }
    }

    private static void mergeOf24And25Keys() {
        c.promise("promise 6: FULL, more than 24 keys");
        for (int how : new int[] {0, 1, 2, 5}) {
            PersistentShelf x = Stock.filled();
            x.make(NONE, PersistentShelf.MAP);
            for (int n = 0; n < 22; n++) {
                x.put(NONE, 1000 + n, n, NONE);
            }
            c.due("22 and 2 are 24, how " + how, x.merge(NONE, SMALL, how, EMPTY), 24);
            c.due("2 and 22 are 24, how " + how, x.merge(SMALL, NONE, how, EMPTY), 24);
            x.put(NONE, -1, 1, NONE);
            c.due("23 and 2 are 25, how " + how, x.merge(NONE, SMALL, how, EMPTY), FULL);
            c.due("2 and 23 are 25, how " + how, x.merge(SMALL, NONE, how, EMPTY), FULL);
            c.due("24 and 24 are 48, how " + how, x.merge(ALL, OTHERS, how, EMPTY), FULL);
        }
    }

    private static void mergeBadForOtherHows() {
        c.promise("promise 6: BAD for other hows");
        c.refused(
            new Stock.Row("how -1", x -> x.merge(SMALL, EMPTY, -1, NONE), BAD),
            new Stock.Row("how 6", x -> x.merge(SMALL, EMPTY, 6, NONE), BAD),
            new Stock.Row("the least how", x -> x.merge(SMALL, EMPTY, LEAST, NONE), BAD),
            new Stock.Row("the greatest how", x -> x.merge(SMALL, EMPTY, MOST, NONE), BAD));
    }

    private static void valueOfAKey() {
        c.promise("promise 7: The value of key k in a map");
        PersistentShelf x = Stock.filled();
        for (int n = 0; n < 24; n++) {
            c.due("key " + 10 * n, x.value(ALL, 10 * n), n + 1);
        }
        c.map(x, NONE, LEAST, MOST, MOST, LEAST);
        c.due("the least int", x.value(NONE, LEAST), MOST);
        c.due("the greatest int", x.value(NONE, MOST), LEAST);
    }

    private static void valueOfNoKey() {
        c.promise("promise 7: 0 if it hasn't the key");
        PersistentShelf x = Stock.filled();
        for (int k : new int[] {LEAST, -10, -1, 1, 9, 229, 231, 240, MOST}) {
            c.due("key " + k + " in a full map", x.value(ALL, k), 0);
            c.due("key " + k + " in an empty map", x.value(EMPTY, k), 0);
        }
        x.remove(ALL, 230, ALL);
        c.due("the greatest key, removed", x.value(ALL, 230), 0);
        x.remove(SMALL, 1, SMALL);
        c.due("the least key, removed", x.value(SMALL, 1), 0);
    }

    private static void valueWhereRefused() {
        c.promise("promise 7: also 0 where an operation would be refused");
        PersistentShelf x = Stock.filled();
        for (int place : NO_PLACES) {
            c.due("place " + place, x.value(place, 10), 0);
        }
        c.due("in a list that has 3", x.value(LIST, 3), 0);
        c.due("in a full list", x.value(Stock.FULL_LIST, 100), 0);
        c.due("in nothing", x.value(NONE, 10), 0);
        x.make(ALL, PersistentShelf.NOTHING);
        c.due("in nothing where a map was", x.value(ALL, 10), 0);
        x.convert(SMALL, 0, SMALL);
        c.due("in a list where a map was", x.value(SMALL, 1), 0);
    }

    private static void keyBySize() {
        c.promise("promise 8: The i-th key by size (0 the least) of a map");
        PersistentShelf x = Stock.filled();
        for (int n = 0; n < 24; n++) {
            c.due("key " + n, x.key(ALL, n), 10 * n);
        }
        c.map(x, NONE, MOST, 1, -1, 1, 0, 1, LEAST, 1, 1, 1);
        int[] due = {LEAST, -1, 0, 1, MOST};
        for (int n = 0; n < due.length; n++) {
            c.due("key " + n, x.key(NONE, n), due[n]);
        }
    }

    private static void keyIfThereIsNone() {
        c.promise("promise 8: 0 if there is none");
        PersistentShelf x = Stock.filled();
        for (int i : new int[] {LEAST, -1, 24, 25, 48, MOST}) {
            c.due("key " + i + " of 24", x.key(ALL, i), 0);
            c.due("key " + i + " of none", x.key(EMPTY, i), 0);
        }
        c.due("key 2 of 2", x.key(SMALL, 2), 0);
        c.due("key 0 of none", x.key(EMPTY, 0), 0);
        x.remove(ALL, 0, ALL);
        c.due("key 23 of 23", x.key(ALL, 23), 0);
    }

    private static void keyWhereRefused() {
        c.promise("promise 8: 0 where an operation would be refused");
        PersistentShelf x = Stock.filled();
        for (int place : NO_PLACES) {
            c.due("place " + place, x.key(place, 0), 0);
            c.due("place " + place, x.key(place, -1), 0);
        }
        c.due("of a list", x.key(LIST, 0), 0);
        c.due("of a full list", x.key(Stock.FULL_LIST, 47), 0);
        c.due("of nothing", x.key(NONE, 0), 0);
        x.make(ALL, PersistentShelf.NOTHING);
        c.due("of nothing where a map was", x.key(ALL, 1), 0);
    }
}
