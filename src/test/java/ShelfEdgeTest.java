/** The boundary cases that promises 1, 2, 3, 17 and 18 name: one test for each sentence. */
public final class ShelfEdgeTest {
    private static final int BAD = PersistentShelf.BAD, KIND = PersistentShelf.KIND;
    private static final int NOTHING = PersistentShelf.NOTHING, MAP = PersistentShelf.MAP, LIST = PersistentShelf.LIST;
    private static final int LEAST = Integer.MIN_VALUE, MOST = Integer.MAX_VALUE;
    private static final int[] NO_PLACES = {-1, 8, LEAST, MOST};
    private static final int NONE = Stock.NONE;
    private static final Checks c = new Checks();

    public static void main(String[] args) {
        nothingInAnyPlace();
        makePutsAnEmptyMap();
        makePutsAnEmptyList();
        makeTakesAway();
        makeBadForOtherKinds();
        makeAnswers0();
        copyOfNothing();
        copyIsInBothPlaces();
        aboutKinds();
        aboutSizes();
        aboutSize0ForNothing();
        aboutBadOutside();
        sameNeedsSomethingInBoth();
        sameNeedsTheSameKind();
        sameKeysWithTheSameValues();
        sameElementsInOrder();
        sameLooksAtNoMoreThanIsThere();
        c.end();
    }

    private static void nothingInAnyPlace() {
        c.promise("promise 1: Nothing in any place");
        for (int place = 0; place < 8; place++) {
            PersistentShelf x = new PersistentShelf();
            c.due("kind of " + place, x.about(place, 0), NOTHING);
            c.due("size of " + place, x.about(place, 1), 0);
            c.due("copy of " + place, x.copy(place, 7 - place), KIND);
            c.due("same " + place, x.same(place, place), false);
        }
    }

    private static void makePutsAnEmptyMap() {
        c.promise("promise 2: Puts an empty collection into a place: kind MAP");
        for (int place = 0; place < 8; place++) {
            PersistentShelf x = Stock.filled();
            x.make(place, MAP);
            c.holdsMap(x, "made", place);
            c.due("no key", x.key(place, 0), 0);
            c.due("no value", x.value(place, 1), 0);
            c.due("takes a first key", x.put(place, 1, 2, place), 1);
        }
    }

    private static void makePutsAnEmptyList() {
        c.promise("promise 2: Puts an empty collection into a place: kind LIST");
        for (int place = 0; place < 8; place++) {
            PersistentShelf x = Stock.filled();
            x.make(place, LIST);
            c.holdsList(x, "made", place);
            c.due("no element", x.at(place, 0), 0);
            c.due("no sum", x.sum(place, 0, 48), 0);
            c.due("takes a first element", x.insert(place, 0, 2, place), 1);
        }
    }

    private static void makeTakesAway() {
        c.promise("promise 2: or takes away what is there: NOTHING");
        for (int place = 0; place < 8; place++) {
            PersistentShelf x = Stock.filled();
            x.make(place, NOTHING);
            c.holdsNothing(x, "taken away", place);
            c.due("no key", x.key(place, 0), 0);
            c.due("no element", x.at(place, 0), 0);
            c.due("no copy", x.copy(place, place), KIND);
        }
    }

    private static void makeBadForOtherKinds() {
        c.promise("promise 2: BAD for other kinds");
        for (int place = 0; place < 8; place++) {
            int p = place;
            c.refused(
                new Stock.Row("kind -1 at " + p, x -> x.make(p, -1), BAD),
                new Stock.Row("kind 3 at " + p, x -> x.make(p, 3), BAD),
                new Stock.Row("the least kind at " + p, x -> x.make(p, LEAST), BAD),
                new Stock.Row("the greatest kind at " + p, x -> x.make(p, MOST), BAD));
        }
    }

    private static void makeAnswers0() {
        c.promise("promise 2: Answers 0");
        for (int place = 0; place < 8; place++) {
            for (int kind : new int[] {NOTHING, MAP, LIST}) {
                PersistentShelf x = Stock.filled();
                c.due("kind " + kind + " at " + place, x.make(place, kind), 0);
                c.due("once more", x.make(place, kind), 0);
            }
        }
    }

    private static void copyOfNothing() {
        c.promise("promise 3: What is in place from (nothing: KIND)");
        PersistentShelf x = Stock.filled();
        c.due("never filled", x.copy(NONE, 0), KIND);
        c.due("never filled, onto itself", x.copy(NONE, NONE), KIND);
        x.make(1, NOTHING);
        c.due("taken away", x.copy(1, 0), KIND);
        c.due("an empty map is something", x.copy(Stock.EMPTY_MAP, 0), 0);
        c.due("an empty map is something", x.about(0, 0), MAP);
        c.due("an empty list is something", x.copy(Stock.EMPTY_LIST, 0), 0);
        c.due("an empty list is something", x.about(0, 0), LIST);
    }

    private static void copyIsInBothPlaces() {
        c.promise("promise 3: What is in place from is in place to, too");
        String[] before = Stock.look(Stock.filled());
        for (int from = 0; from < 8; from++) {
            for (int to = 0; to < 8 && from != NONE; to++) {
                PersistentShelf x = Stock.filled();
                x.copy(from, to);
                c.due("to " + to + " from " + from, Stock.look(x, to), before[from]);
                c.due("from " + from + " to " + to, Stock.look(x, from), before[from]);
                c.due("the same", x.same(from, to), true);
            }
        }
    }

    private static void aboutKinds() {
        c.promise("promise 17: what 0: what is in a place, NOTHING, MAP or LIST");
        int[] due = {MAP, LIST, NOTHING, MAP, LIST, MAP, MAP, LIST};
        PersistentShelf x = Stock.filled();
        for (int place = 0; place < 8; place++) {
            c.due("about " + place, x.about(place, 0), due[place]);
        }
    }

    private static void aboutSizes() {
        c.promise("promise 17: 1: its size");
        int[] due = {2, 3, 0, 24, 48, 24, 0, 0};
        PersistentShelf x = Stock.filled();
        for (int place = 0; place < 8; place++) {
            c.due("about " + place, x.about(place, 1), due[place]);
        }
    }

    private static void aboutSize0ForNothing() {
        c.promise("promise 17: 0 for nothing");
        PersistentShelf x = Stock.filled();
        for (int place = 0; place < 8; place++) {
            x.make(place, NOTHING);
            c.due("taken away from " + place, x.about(place, 1), 0);
        }
    }

    private static void aboutBadOutside() {
        c.promise("promise 17: BAD if place or what is outside");
        PersistentShelf x = Stock.filled();
        for (int place : NO_PLACES) {
            c.due("kind of place " + place, x.about(place, 0), BAD);
            c.due("size of place " + place, x.about(place, 1), BAD);
            c.due("both outside", x.about(place, 2), BAD);
        }
        for (int place = 0; place < 8; place++) {
            for (int what : new int[] {-1, 2, LEAST, MOST}) {
                c.due("place " + place + ", what " + what, x.about(place, what), BAD);
            }
        }
    }

    private static void sameNeedsSomethingInBoth() {
        c.promise("promise 18: Whether both places hold something");
        PersistentShelf x = Stock.filled();
        x.make(0, NOTHING);
        c.due("nothing with itself", x.same(NONE, NONE), false);
        c.due("nothing and nothing", x.same(NONE, 0), false);
        for (int place = 0; place < 8; place++) {
            c.due("nothing and " + place, x.same(NONE, place), false);
            c.due(place + " and nothing", x.same(place, NONE), false);
            for (int outside : NO_PLACES) {
                c.due(outside + " and " + place, x.same(outside, place), false);
                c.due(place + " and " + outside, x.same(place, outside), false);
            }
        }
        c.due("outside with itself", x.same(8, 8), false);
    }

    private static void sameNeedsTheSameKind() {
        c.promise("promise 18: and of the same kind");
        PersistentShelf x = Stock.filled();
        c.due("empty map and empty list", x.same(Stock.EMPTY_MAP, Stock.EMPTY_LIST), false);
        c.due("empty list and empty map", x.same(Stock.EMPTY_LIST, Stock.EMPTY_MAP), false);
        c.map(x, 0, 1, 0, 2, 0);
        c.list(x, 1, 1, 2);
        c.due("keys with the value 0 and a list of them", x.same(0, 1), false);
        c.due("a list and keys with the value 0", x.same(1, 0), false);
    }

    private static void sameKeysWithTheSameValues() {
        c.promise("promise 18: the same keys with the same values");
        PersistentShelf x = Stock.filled();
        c.due("an empty map with itself", x.same(Stock.EMPTY_MAP, Stock.EMPTY_MAP), true);
        x.make(NONE, MAP);
        c.due("two empty maps", x.same(Stock.EMPTY_MAP, NONE), true);
        int[] full = Stock.fullMap(0);
        x.make(NONE, MAP);
        for (int n = 46; n >= 0; n -= 2) {
            x.put(NONE, full[n], full[n + 1], NONE);
        }
        c.due("24 keys, put the other way round", x.same(Stock.FULL_MAP, NONE), true);
        for (int n = 0; n < 48; n += 46) {
            x.put(Stock.FULL_MAP, full[n], -1, NONE);
            c.due("another value of key " + n / 2, x.same(Stock.FULL_MAP, NONE), false);
            x.remove(Stock.FULL_MAP, full[n], NONE);
            c.due("a key less", x.same(Stock.FULL_MAP, NONE), false);
            c.due("a key more", x.same(NONE, Stock.FULL_MAP), false);
            x.put(NONE, full[n] + 1, full[n + 1], NONE);
            c.due("another key with the same value", x.same(Stock.FULL_MAP, NONE), false);
        }
        c.map(x, 0, 3, 0);
        c.map(x, 1, 4, 0);
        c.due("a key with the value 0 is there", x.same(0, Stock.EMPTY_MAP), false);
        c.due("other keys, both with the value 0", x.same(0, 1), false);
    }

    private static void sameElementsInOrder() {
        c.promise("promise 18: the same elements in order");
        PersistentShelf x = Stock.filled();
        c.due("an empty list with itself", x.same(Stock.EMPTY_LIST, Stock.EMPTY_LIST), true);
        x.make(NONE, LIST);
        c.due("two empty lists", x.same(Stock.EMPTY_LIST, NONE), true);
        x.turn(Stock.FULL_LIST, NONE);
        c.due("48 elements, the other way round", x.same(Stock.FULL_LIST, NONE), false);
        x.turn(NONE, NONE);
        c.due("48 elements, turned back", x.same(Stock.FULL_LIST, NONE), true);
        for (int n = 0; n < 48; n += 47) {
            x.cut(Stock.FULL_LIST, n, n + 1, NONE);
            c.due("an element less", x.same(Stock.FULL_LIST, NONE), false);
            c.due("an element more", x.same(NONE, Stock.FULL_LIST), false);
            x.insert(NONE, n, -1, NONE);
            c.due("another element " + n, x.same(Stock.FULL_LIST, NONE), false);
        }
        c.list(x, 0, 0);
        c.due("an element 0 is there", x.same(0, Stock.EMPTY_LIST), false);
        c.list(x, 1, 0, 0);
        c.due("and is there twice", x.same(0, 1), false);
    }

    private static void sameLooksAtNoMoreThanIsThere() {
        c.promise("promise 18: with the same content");
        PersistentShelf x = Stock.filled();
        x.part(Stock.FULL_LIST, 0, 1, Stock.FULL_LIST);
        c.list(x, NONE, 100);
        c.due("a list that was longer", x.same(Stock.FULL_LIST, NONE), true);
        x.merge(Stock.FULL_MAP, Stock.FULL_MAP, 4, Stock.FULL_MAP);
        c.due("a map that was greater", x.same(Stock.FULL_MAP, Stock.EMPTY_MAP), true);
        x.convert(0, 0, 0);
        c.list(x, NONE, 1, 5);
        c.due("a list where a map was", x.same(0, NONE), true);
        x.copy(NONE, 0);
        x.convert(0, 2, 0);
        c.map(x, NONE, 1, 1, 5, 1);
        c.due("a map where a list was", x.same(0, NONE), true);
    }
}
