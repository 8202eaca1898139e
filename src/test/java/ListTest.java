/** Promises 9 to 16: insert, cut, part, join, turn, at, sum and convert. */
public final class ListTest {
    private static final int BAD = PersistentShelf.BAD, KIND = PersistentShelf.KIND;
    private static final int INDEX = PersistentShelf.INDEX, FULL = PersistentShelf.FULL;
    private static final int LEAST = Integer.MIN_VALUE, MOST = Integer.MAX_VALUE;
    private static final int[] NO_PLACES = {-1, 8, LEAST, MOST};
    private static final Checks c = new Checks();

    public static void main(String[] args) {
        insert();
        cut();
        part();
        rangesRefused();
        join();
        turn();
        at();
        sum();
        convertMaps();
        convertLists();
        convertAtTheEdge();
        convertRefused();
        c.end();
    }

    private static void insert() {
        c.promise("promise 9");
        PersistentShelf x = new PersistentShelf();
        c.list(x, 0, 1, 2, 3);
        c.due("at the front", x.insert(0, 0, MOST, 1), 4);
        c.holdsList(x, "front", 1, MOST, 1, 2, 3);
        c.due("in the middle", x.insert(0, 2, LEAST, 1), 4);
        c.holdsList(x, "middle", 1, 1, 2, LEAST, 3);
        c.due("at the end", x.insert(0, 3, 0, 1), 4);
        c.holdsList(x, "end", 1, 1, 2, 3, 0);
        c.holdsList(x, "the old list stays", 0, 1, 2, 3);
        c.due("in place", x.insert(0, 1, 9, 0), 4);
        c.holdsList(x, "in place", 0, 1, 9, 2, 3);
        c.map(x, 2, 1, 1);
        for (int i : new int[] {-1, 5, LEAST, MOST}) {
            c.due("index " + i, x.insert(0, i, 7, 0), INDEX);
            c.due("KIND before INDEX", x.insert(2, i, 7, 0), KIND);
            c.due("BAD before INDEX", x.insert(0, i, 7, 8), BAD);
        }
        c.due("into nothing", x.insert(3, 0, 7, 0), KIND);
        for (int place : NO_PLACES) {
            c.due("from " + place, x.insert(place, 0, 7, 0), BAD);
            c.due("to " + place, x.insert(0, 0, 7, place), BAD);
            c.due("BAD before KIND", x.insert(2, 0, 7, place), BAD);
        }
        c.list(x, 4, rising(48));
        c.due("49th at the front", x.insert(4, 0, 7, 0), FULL);
        c.due("49th at the end", x.insert(4, 48, 7, 4), FULL);
        c.due("INDEX before FULL", x.insert(4, 49, 7, 4), INDEX);
        c.due("INDEX before FULL", x.insert(4, -1, 7, 4), INDEX);
        c.holdsList(x, "FULL changes nothing", 4, rising(48));
        c.holdsList(x, "after refusals", 0, 1, 9, 2, 3);
        c.holdsMap(x, "after refusals", 2, 1, 1);
    }

    private static void cut() {
        c.promise("promise 10");
        PersistentShelf x = new PersistentShelf();
        c.list(x, 0, 1, 2, 3, 4, 5);
        c.due("the middle", x.cut(0, 1, 3, 1), 3);
        c.holdsList(x, "middle", 1, 1, 4, 5);
        c.due("the front", x.cut(0, 0, 2, 1), 3);
        c.holdsList(x, "front", 1, 3, 4, 5);
        c.due("the end", x.cut(0, 4, 5, 1), 4);
        c.holdsList(x, "end", 1, 1, 2, 3, 4);
        c.due("none", x.cut(0, 5, 5, 1), 5);
        c.holdsList(x, "none", 1, 1, 2, 3, 4, 5);
        c.due("all", x.cut(0, 0, 5, 1), 0);
        c.holdsList(x, "all", 1);
        c.due("none of none", x.cut(1, 0, 0, 1), 0);
        c.holdsList(x, "the old list stays", 0, 1, 2, 3, 4, 5);
        c.due("in place", x.cut(0, 1, 2, 0), 4);
        c.holdsList(x, "in place", 0, 1, 3, 4, 5);
    }

    private static void part() {
        c.promise("promise 11");
        PersistentShelf x = new PersistentShelf();
        c.list(x, 0, 1, 2, 3, 4, 5);
        c.due("the middle", x.part(0, 1, 3, 1), 2);
        c.holdsList(x, "middle", 1, 2, 3);
        c.due("the front", x.part(0, 0, 2, 1), 2);
        c.holdsList(x, "front", 1, 1, 2);
        c.due("the end", x.part(0, 4, 5, 1), 1);
        c.holdsList(x, "end", 1, 5);
        c.due("none", x.part(0, 5, 5, 1), 0);
        c.holdsList(x, "none", 1);
        c.due("all", x.part(0, 0, 5, 1), 5);
        c.holdsList(x, "all", 1, 1, 2, 3, 4, 5);
        c.holdsList(x, "the old list stays", 0, 1, 2, 3, 4, 5);
        c.due("in place", x.part(0, 3, 5, 0), 2);
        c.holdsList(x, "in place", 0, 4, 5);
    }

    private static void rangesRefused() {
        c.promise("promises 10, 11");
        PersistentShelf x = new PersistentShelf();
        c.list(x, 0, 1, 2, 3);
        c.map(x, 1, 1, 1);
        int[][] ranges = {{-1, 2}, {2, 1}, {0, 4}, {4, 4}, {-1, -1}, {LEAST, MOST}, {MOST, LEAST}, {3, MOST}, {LEAST, 0}};
        for (int[] r : ranges) {
            String range = r[0] + " to " + r[1];
            c.due("cut " + range, x.cut(0, r[0], r[1], 0), INDEX);
            c.due("part " + range, x.part(0, r[0], r[1], 0), INDEX);
            c.due("KIND before INDEX", x.cut(1, r[0], r[1], 0), KIND);
            c.due("KIND before INDEX", x.part(1, r[0], r[1], 0), KIND);
            c.due("BAD before INDEX", x.cut(0, r[0], r[1], -1), BAD);
            c.due("BAD before INDEX", x.part(0, r[0], r[1], -1), BAD);
        }
        c.due("cut of nothing", x.cut(2, 0, 0, 0), KIND);
        c.due("part of nothing", x.part(2, 0, 0, 0), KIND);
        for (int place : NO_PLACES) {
            c.due("cut from " + place, x.cut(place, 0, 1, 0), BAD);
            c.due("part from " + place, x.part(place, 0, 1, 0), BAD);
            c.due("cut to " + place, x.cut(1, 0, 1, place), BAD);
            c.due("part to " + place, x.part(1, 0, 1, place), BAD);
        }
        c.holdsList(x, "after refusals", 0, 1, 2, 3);
    }

    private static void join() {
        c.promise("promise 12");
        PersistentShelf x = new PersistentShelf();
        c.list(x, 0, 1, 2);
        c.list(x, 1, 3, 4, 5);
        c.due("join", x.join(0, 1, 2), 5);
        c.holdsList(x, "joined", 2, 1, 2, 3, 4, 5);
        c.due("the other way round", x.join(1, 0, 2), 5);
        c.holdsList(x, "the other way round", 2, 3, 4, 5, 1, 2);
        c.holdsList(x, "a stays", 0, 1, 2);
        c.holdsList(x, "b stays", 1, 3, 4, 5);
        c.due("into b", x.join(0, 1, 1), 5);
        c.holdsList(x, "into b", 1, 1, 2, 3, 4, 5);
        c.due("with itself, in place", x.join(0, 0, 0), 4);
        c.holdsList(x, "with itself", 0, 1, 2, 1, 2);
        c.list(x, 3);
        c.due("an empty one behind", x.join(0, 3, 2), 4);
        c.due("an empty one before", x.join(3, 0, 2), 4);
        c.holdsList(x, "with an empty one", 2, 1, 2, 1, 2);
        c.map(x, 4, 1, 1);
        c.due("a is a map", x.join(4, 0, 0), KIND);
        c.due("b is a map", x.join(0, 4, 0), KIND);
        c.due("a is nothing", x.join(5, 0, 0), KIND);
        c.due("b is nothing", x.join(0, 5, 0), KIND);
        for (int place : NO_PLACES) {
            c.due("a " + place, x.join(place, 0, 0), BAD);
            c.due("b " + place, x.join(4, place, 0), BAD);
            c.due("to " + place, x.join(4, 0, place), BAD);
        }
        c.list(x, 6, rising(44));
        c.due("48 elements", x.join(6, 0, 7), 48);
        c.due("the last one", x.at(7, 47), 2);
        c.due("49 elements", x.join(6, 1, 7), FULL);
        c.due("96 elements", x.join(7, 7, 6), FULL);
        c.holdsList(x, "FULL changes nothing", 6, rising(44));
        c.due("FULL changes nothing", x.about(7, 1), 48);
        c.holdsList(x, "after refusals", 0, 1, 2, 1, 2);
    }

    private static void turn() {
        c.promise("promise 13");
        PersistentShelf x = new PersistentShelf();
        c.list(x, 0, 1, 2, 3, 4);
        c.due("turn", x.turn(0, 1), 4);
        c.holdsList(x, "turned", 1, 4, 3, 2, 1);
        c.holdsList(x, "the old list stays", 0, 1, 2, 3, 4);
        c.due("in place", x.turn(0, 0), 4);
        c.holdsList(x, "in place", 0, 4, 3, 2, 1);
        c.list(x, 2);
        c.due("an empty list", x.turn(2, 3), 0);
        c.holdsList(x, "empty", 3);
        c.map(x, 4, 1, 1, 2, 2);
        c.due("a map", x.turn(4, 0), KIND);
        c.due("nothing", x.turn(5, 0), KIND);
        for (int place : NO_PLACES) {
            c.due("from " + place, x.turn(place, 0), BAD);
            c.due("to " + place, x.turn(4, place), BAD);
        }
        c.holdsList(x, "after refusals", 0, 4, 3, 2, 1);
    }

    private static void at() {
        c.promise("promise 14");
        PersistentShelf x = new PersistentShelf();
        c.list(x, 0, LEAST, 5, MOST);
        c.list(x, 1, 9, 9);
        c.due("first", x.at(0, 0), LEAST);
        c.due("second", x.at(0, 1), 5);
        c.due("last", x.at(0, 2), MOST);
        for (int i : new int[] {-1, 3, 48, LEAST, MOST}) {
            c.due("at " + i, x.at(0, i), 0);
            c.due("at " + i, x.at(1, i), 0);
        }
        c.due("shorter", x.part(0, 0, 1, 0), 1);
        c.due("past the end", x.at(0, 1), 0);
        c.map(x, 2, 5, 6);
        c.due("of a map", x.at(2, 0), 0);
        c.due("of nothing", x.at(3, 0), 0);
        for (int place : NO_PLACES) {
            c.due("of place " + place, x.at(place, 0), 0);
        }
    }

    private static void sum() {
        c.promise("promise 15");
        PersistentShelf x = new PersistentShelf();
        c.list(x, 0, 1, 20, 300, 4000);
        c.list(x, 1, 7);
        c.due("all", x.sum(0, 0, 4), 4321);
        c.due("middle", x.sum(0, 1, 3), 320);
        c.due("none", x.sum(0, 2, 2), 0);
        c.due("i after j", x.sum(0, 3, 1), 0);
        c.due("before the start", x.sum(0, -3, 2), 21);
        c.due("past the end", x.sum(0, 2, 9), 4300);
        c.due("past both", x.sum(0, LEAST, MOST), 4321);
        c.due("all before", x.sum(0, -9, -2), 0);
        c.due("all past", x.sum(0, 4, 48), 0);
        c.due("far past", x.sum(0, MOST - 1, MOST), 0);
        c.due("far before", x.sum(0, LEAST, LEAST + 1), 0);
        c.due("wrong way round", x.sum(0, MOST, LEAST), 0);
        c.list(x, 2, MOST, MOST, MOST);
        c.due("above the ints", x.sum(2, 0, 3), 3L * MOST);
        c.list(x, 2, LEAST, LEAST, LEAST);
        c.due("below the ints", x.sum(2, 0, 3), 3L * LEAST);
        c.map(x, 3, 5, 6);
        c.due("of a map", x.sum(3, 0, 1), 0);
        c.due("of nothing", x.sum(4, 0, 1), 0);
        c.due("shorter", x.cut(0, 1, 4, 0), 1);
        c.due("of the shorter", x.sum(0, 0, 4), 1);
        for (int place : NO_PLACES) {
            c.due("of place " + place, x.sum(place, 0, 1), 0);
        }
    }

    private static void convertMaps() {
        c.promise("promise 16");
        PersistentShelf x = new PersistentShelf();
        c.map(x, 0, 5, 1, LEAST, 3, MOST, 2, -1, 3);
        c.due("keys", x.convert(0, 0, 1), 4);
        c.holdsList(x, "keys", 1, LEAST, -1, 5, MOST);
        c.due("values", x.convert(0, 1, 1), 4);
        c.holdsList(x, "values", 1, 3, 3, 1, 2);
        c.holdsMap(x, "the map stays", 0, LEAST, 3, -1, 3, 5, 1, MOST, 2);
        c.due("values in place", x.convert(0, 1, 0), 4);
        c.holdsList(x, "in place", 0, 3, 3, 1, 2);
        c.map(x, 2);
        c.due("keys of an empty map", x.convert(2, 0, 3), 0);
        c.holdsList(x, "no keys", 3);
        c.due("values of an empty map", x.convert(2, 1, 3), 0);
        c.holdsList(x, "no values", 3);
    }

    private static void convertLists() {
        PersistentShelf x = new PersistentShelf();
        c.list(x, 0, 7, MOST, 7, LEAST, 0, 7, 0);
        c.due("counts", x.convert(0, 2, 1), 4);
        c.holdsMap(x, "counts", 1, LEAST, 1, 0, 2, 7, 3, MOST, 1);
        c.due("last indexes", x.convert(0, 3, 1), 4);
        c.holdsMap(x, "last indexes", 1, LEAST, 3, 0, 6, 7, 5, MOST, 1);
        c.holdsList(x, "the list stays", 0, 7, MOST, 7, LEAST, 0, 7, 0);
        c.due("counts in place", x.convert(0, 2, 0), 4);
        c.holdsMap(x, "in place", 0, LEAST, 1, 0, 2, 7, 3, MOST, 1);
        c.list(x, 2);
        c.due("counts of an empty list", x.convert(2, 2, 3), 0);
        c.holdsMap(x, "no counts", 3);
        c.due("indexes of an empty list", x.convert(2, 3, 3), 0);
        c.holdsMap(x, "no indexes", 3);
    }

    private static void convertAtTheEdge() {
        PersistentShelf x = new PersistentShelf();
        c.list(x, 0, rising(24));
        c.due("falling", x.turn(0, 1), 24);
        c.due("24 twice", x.join(0, 1, 1), 48);
        c.due("24 counts", x.convert(1, 2, 2), 24);
        c.due("24 indexes", x.convert(1, 3, 3), 24);
        for (int n = 0; n < 24; n++) {
            c.due("count of " + n, x.value(2, n), 2);
            c.due("index of " + n, x.value(3, n), 47 - n);
        }
        c.list(x, 4, rising(25));
        c.due("25 counts", x.convert(4, 2, 0), FULL);
        c.due("25 indexes", x.convert(4, 3, 4), FULL);
        c.holdsList(x, "FULL changes nothing", 0, rising(24));
        c.holdsList(x, "FULL changes nothing", 4, rising(25));
        c.list(x, 5, rising(48));
        c.due("turned", x.turn(5, 5), 48);
        c.due("48 counts", x.convert(5, 2, 0), FULL);
        c.due("48 indexes", x.convert(5, 3, 0), FULL);
        c.due("keys of a full map", x.convert(2, 0, 6), 24);
        c.due("keys of a full map", x.same(6, 0), true);
    }

    private static void convertRefused() {
        PersistentShelf x = new PersistentShelf();
        c.map(x, 0, 1, 10);
        c.list(x, 1, 5);
        for (int what = 0; what < 4; what++) {
            c.due("the wrong kind, what " + what, x.convert(what < 2 ? 1 : 0, what, 0), KIND);
            c.due("nothing, what " + what, x.convert(2, what, 0), KIND);
            for (int place : NO_PLACES) {
                c.due("from " + place, x.convert(place, what, 0), BAD);
                c.due("to " + place, x.convert(2, what, place), BAD);
            }
        }
        for (int what : new int[] {-1, 4, LEAST, MOST}) {
            c.due("what " + what, x.convert(0, what, 0), BAD);
            c.due("what " + what, x.convert(1, what, 1), BAD);
            c.due("BAD before KIND", x.convert(2, what, 0), BAD);
        }
        c.holdsMap(x, "after refusals", 0, 1, 10);
        c.holdsList(x, "after refusals", 1, 5);
    }

    private static int[] rising(int count) {
        int[] elements = new int[count];
        for (int n = 0; n < count; n++) {
            elements[n] = n;
        }
        return elements;
    }
}
