/** Promises 4 to 8: put, remove, merge, value and key. */
public final class MapTest {
    private static final int BAD = PersistentShelf.BAD, KIND = PersistentShelf.KIND, FULL = PersistentShelf.FULL;
    private static final int LEAST = Integer.MIN_VALUE, MOST = Integer.MAX_VALUE;
    private static final int[] NO_PLACES = {-1, 8, LEAST, MOST};
    private static final Checks c = new Checks();

    public static void main(String[] args) {
        put();
        putAtTheEdge();
        remove();
        merge();
        mergeIntoItsOwnPlaces();
        mergeAtTheEdge();
        mergeRefused();
        value();
        key();
        c.end();
    }

    private static void put() {
        c.promise("promise 4");
        PersistentShelf x = new PersistentShelf();
        c.map(x, 0, 5, 50, MOST, 1, LEAST, 2, 0, 0, -1, 3);
        c.holdsMap(x, "put", 0, LEAST, 2, -1, 3, 0, 0, 5, 50, MOST, 1);
        c.due("put of a key that is there", x.put(0, 5, 51, 1), 5);
        c.holdsMap(x, "new value", 1, LEAST, 2, -1, 3, 0, 0, 5, 51, MOST, 1);
        c.holdsMap(x, "the old map stays", 0, LEAST, 2, -1, 3, 0, 0, 5, 50, MOST, 1);
        c.due("put of a new key", x.put(0, 4, 40, 1), 6);
        c.holdsMap(x, "new key", 1, LEAST, 2, -1, 3, 0, 0, 4, 40, 5, 50, MOST, 1);
        c.list(x, 2, 1);
        c.due("put over a list", x.put(0, 5, 0, 2), 5);
        c.holdsMap(x, "over a list", 2, LEAST, 2, -1, 3, 0, 0, 5, 0, MOST, 1);
        c.list(x, 2, 1);
        c.due("put to a list", x.put(2, 5, 1, 0), KIND);
        c.due("put to nothing", x.put(3, 5, 1, 0), KIND);
        for (int place : NO_PLACES) {
            c.due("put from " + place, x.put(place, 5, 1, 0), BAD);
            c.due("put to " + place, x.put(0, 5, 1, place), BAD);
            c.due("BAD before KIND", x.put(2, 5, 1, place), BAD);
        }
        c.holdsMap(x, "after refusals", 0, LEAST, 2, -1, 3, 0, 0, 5, 50, MOST, 1);
        c.holdsList(x, "after refusals", 2, 1);
    }

    private static void putAtTheEdge() {
        PersistentShelf x = new PersistentShelf();
        c.map(x, 0, multiples(24, 10, 0));
        c.list(x, 1, 7);
        c.due("25th key, below", x.put(0, -1, 0, 1), FULL);
        c.due("25th key, between", x.put(0, 5, 0, 0), FULL);
        c.due("25th key, above", x.put(0, 999, 0, 0), FULL);
        c.holdsList(x, "FULL changes nothing", 1, 7);
        c.holdsMap(x, "FULL changes nothing", 0, multiples(24, 10, 0));
        c.due("a key that is there", x.put(0, 230, 77, 1), 24);
        c.due("its value", x.value(1, 230), 77);
    }

    private static void remove() {
        c.promise("promise 5");
        PersistentShelf x = new PersistentShelf();
        c.map(x, 0, 1, 10, 2, 20, 3, 30);
        c.due("remove the least", x.remove(0, 1, 1), 2);
        c.holdsMap(x, "least", 1, 2, 20, 3, 30);
        c.due("remove the middle", x.remove(0, 2, 1), 2);
        c.holdsMap(x, "middle", 1, 1, 10, 3, 30);
        c.due("removed", x.value(1, 2), 0);
        c.due("remove the greatest", x.remove(0, 3, 1), 2);
        c.holdsMap(x, "greatest", 1, 1, 10, 2, 20);
        c.due("remove what isn't there", x.remove(0, 4, 1), 3);
        c.holdsMap(x, "not there", 1, 1, 10, 2, 20, 3, 30);
        c.due("remove what isn't there", x.remove(0, LEAST, 1), 3);
        c.holdsMap(x, "the old map stays", 0, 1, 10, 2, 20, 3, 30);
        c.due("remove in place", x.remove(0, 2, 0), 2);
        c.holdsMap(x, "in place", 0, 1, 10, 3, 30);
        c.map(x, 2);
        c.due("remove from an empty map", x.remove(2, 0, 3), 0);
        c.holdsMap(x, "empty", 3);
        c.list(x, 4, 1);
        c.due("remove from a list", x.remove(4, 1, 0), KIND);
        c.due("remove from nothing", x.remove(5, 1, 0), KIND);
        for (int place : NO_PLACES) {
            c.due("remove from " + place, x.remove(place, 1, 0), BAD);
            c.due("remove to " + place, x.remove(0, 1, place), BAD);
            c.due("BAD before KIND", x.remove(4, 1, place), BAD);
        }
        c.holdsMap(x, "after refusals", 0, 1, 10, 3, 30);
    }

    private static void merge() {
        c.promise("promise 6");
        PersistentShelf x = new PersistentShelf();
        c.map(x, 0, -5, 1, 2, 3, 4, MOST, 9, 5);
        c.map(x, 1, -7, 6, 2, 7, 4, 2, 10, 8);
        int[][] due = {
            {-7, 6, -5, 1, 2, 3, 4, MOST, 9, 5, 10, 8},
            {-7, 6, -5, 1, 2, 7, 4, 2, 9, 5, 10, 8},
            {-7, 6, -5, 1, 2, 10, 4, LEAST + 1, 9, 5, 10, 8},
            {2, 3, 4, MOST},
            {-5, 1, 9, 5},
            {-7, 6, -5, 1, 9, 5, 10, 8},
        };
        for (int how = 0; how < due.length; how++) {
            c.due("merge how " + how, x.merge(0, 1, how, 2), due[how].length / 2);
            c.holdsMap(x, "merged how " + how, 2, due[how]);
        }
        c.due("the other way round", x.merge(1, 0, 3, 2), 2);
        c.holdsMap(x, "the other way round", 2, 2, 7, 4, 2);
        c.due("the other way round", x.merge(1, 0, 4, 2), 2);
        c.holdsMap(x, "the other way round", 2, -7, 6, 10, 8);
        c.holdsMap(x, "a stays", 0, -5, 1, 2, 3, 4, MOST, 9, 5);
        c.holdsMap(x, "b stays", 1, -7, 6, 2, 7, 4, 2, 10, 8);
        mergeWithEmpty(x);
    }

    private static void mergeWithEmpty(PersistentShelf x) {
        c.map(x, 0, 3, 4);
        c.map(x, 1);
        int[] right = {1, 1, 1, 0, 1, 1};
        int[] left = {1, 1, 1, 0, 0, 1};
        for (int how = 0; how < 6; how++) {
            c.due("with an empty b, how " + how, x.merge(0, 1, how, 2), right[how]);
            c.due("with an empty a, how " + how, x.merge(1, 0, how, 2), left[how]);
            c.due("both empty, how " + how, x.merge(1, 1, how, 2), 0);
        }
    }

    private static void mergeIntoItsOwnPlaces() {
        int[][] due = {{1, 10, 2, 20}, {1, 10, 2, 20}, {1, 20, 2, 40}, {1, 10, 2, 20}, {}, {}};
        for (int how = 0; how < 6; how++) {
            PersistentShelf x = new PersistentShelf();
            c.map(x, 0, 1, 10, 2, 20);
            c.due("a map with itself", x.merge(0, 0, how, 0), due[how].length / 2);
            c.holdsMap(x, "with itself, how " + how, 0, due[how]);
        }
        PersistentShelf x = new PersistentShelf();
        c.map(x, 0, 1, 10, 5, 50);
        c.map(x, 1, 0, 1, 3, 30, 5, 51);
        c.due("into a", x.merge(0, 1, 1, 0), 4);
        c.holdsMap(x, "into a", 0, 0, 1, 1, 10, 3, 30, 5, 51);
        c.due("into b", x.merge(0, 1, 4, 1), 1);
        c.holdsMap(x, "into b", 1, 1, 10);
    }

    private static void mergeAtTheEdge() {
        PersistentShelf x = new PersistentShelf();
        c.map(x, 0, multiples(24, 10, 0));
        c.map(x, 1, multiples(24, 10, 5));
        c.list(x, 2, 8);
        for (int how : new int[] {0, 1, 2, 5}) {
            c.due("48 keys, how " + how, x.merge(0, 1, how, 2), FULL);
        }
        c.holdsList(x, "FULL changes nothing", 2, 8);
        c.due("no key in both", x.merge(0, 1, 3, 2), 0);
        c.due("all keys of a", x.merge(0, 1, 4, 2), 24);
        c.due("all keys of a", x.same(0, 2), true);
        c.map(x, 3, multiples(24, 10, 0));
        for (int how = 0; how < 4; how++) {
            c.due("24 keys in both, how " + how, x.merge(0, 3, how, 4), 24);
        }
        c.due("24 keys in both", x.merge(0, 3, 5, 4), 0);
        c.map(x, 5, 5, 1);
        c.due("a 25th key", x.merge(0, 5, 0, 4), FULL);
        c.due("a 25th key", x.merge(5, 0, 5, 4), FULL);
        c.map(x, 5, 5, 1, 10, 1);
        c.due("one in, one out", x.merge(0, 5, 5, 4), 24);
    }

    private static void mergeRefused() {
        PersistentShelf x = new PersistentShelf();
        c.map(x, 0, 1, 10);
        c.map(x, 1, 2, 20);
        c.list(x, 2, 3);
        for (int how : new int[] {-1, 6, LEAST, MOST}) {
            c.due("how " + how, x.merge(0, 1, how, 0), BAD);
            c.due("BAD before KIND", x.merge(2, 2, how, 0), BAD);
        }
        for (int place : NO_PLACES) {
            c.due("a " + place, x.merge(place, 1, 0, 0), BAD);
            c.due("b " + place, x.merge(0, place, 0, 0), BAD);
            c.due("to " + place, x.merge(0, 1, 0, place), BAD);
            c.due("BAD before KIND", x.merge(2, place, 0, 0), BAD);
        }
        c.due("a is a list", x.merge(2, 0, 0, 0), KIND);
        c.due("b is a list", x.merge(0, 2, 0, 0), KIND);
        c.due("a is nothing", x.merge(3, 0, 0, 0), KIND);
        c.due("b is nothing", x.merge(0, 3, 0, 0), KIND);
        c.holdsMap(x, "after refusals", 0, 1, 10);
    }

    private static void value() {
        c.promise("promise 7");
        PersistentShelf x = new PersistentShelf();
        c.map(x, 0, LEAST, MOST, 0, -4, 7, 0, MOST, LEAST);
        c.due("least key", x.value(0, LEAST), MOST);
        c.due("key 0", x.value(0, 0), -4);
        c.due("value 0", x.value(0, 7), 0);
        c.due("greatest key", x.value(0, MOST), LEAST);
        c.due("no such key", x.value(0, 6), 0);
        c.due("no such key", x.value(0, 8), 0);
        c.list(x, 1, 5, 5, 5, 5, 5, 5);
        c.due("of a list", x.value(1, 5), 0);
        c.due("of nothing", x.value(2, 0), 0);
        for (int place : NO_PLACES) {
            c.due("of place " + place, x.value(place, 0), 0);
        }
    }

    private static void key() {
        c.promise("promise 8");
        PersistentShelf x = new PersistentShelf();
        c.map(x, 0, 9, 1, LEAST, 2, -3, 3, MOST, 4);
        int[] due = {LEAST, -3, 9, MOST};
        for (int i = 0; i < due.length; i++) {
            c.due("key " + i, x.key(0, i), due[i]);
        }
        for (int i : new int[] {-1, 4, 48, LEAST, MOST}) {
            c.due("key " + i, x.key(0, i), 0);
        }
        c.due("one key less", x.remove(0, MOST, 0), 3);
        c.due("key past the end", x.key(0, 3), 0);
        c.list(x, 1, 5, 6);
        c.due("of a list", x.key(1, 0), 0);
        c.due("of nothing", x.key(2, 0), 0);
        for (int place : NO_PLACES) {
            c.due("of place " + place, x.key(place, 0), 0);
        }
    }

    private static int[] multiples(int count, int step, int plus) {
        int[] pairs = new int[2 * count];
        for (int n = 0; n < count; n++) {
            pairs[2 * n] = n * step + plus;
            pairs[2 * n + 1] = n + 1;
        }
        return pairs;
    }
}
