/** Promises 1, 2, 3, 17 and 18: the places themselves, and the order of refusals. */
public final class ShelfTest {
    private static final int BAD = PersistentShelf.BAD, KIND = PersistentShelf.KIND;
    private static final int NOTHING = PersistentShelf.NOTHING, MAP = PersistentShelf.MAP, LIST = PersistentShelf.LIST;
    private static final int LEAST = Integer.MIN_VALUE, MOST = Integer.MAX_VALUE;
    private static final int[] NO_PLACES = {-1, 8, LEAST, MOST};
    private static final Checks c = new Checks();

    public static void main(String[] args) {
        newObject();
        make();
        copy();
        about();
        same();
        objectsApart();
        c.end();
    }

    private static void newObject() {
        c.promise("promise 1");
        PersistentShelf x = new PersistentShelf();
        for (int place = 0; place < 8; place++) {
            c.holdsNothing(x, "new", place);
            c.due("same with itself", x.same(place, place), false);
            c.due("put into nothing", x.put(place, 0, 0, place), KIND);
            c.due("insert into nothing", x.insert(place, 0, 0, place), KIND);
            c.due("copy of nothing", x.copy(place, place), KIND);
            c.due("value in nothing", x.value(place, 0), 0);
            c.due("at in nothing", x.at(place, 0), 0);
        }
    }

    private static void make() {
        c.promise("promise 2");
        PersistentShelf x = new PersistentShelf();
        for (int place = 0; place < 8; place++) {
            c.due("make map", x.make(place, MAP), 0);
            c.holdsMap(x, "made map", place);
            c.due("make list", x.make(place, LIST), 0);
            c.holdsList(x, "made list", place);
            c.due("make nothing", x.make(place, NOTHING), 0);
            c.holdsNothing(x, "made nothing", place);
        }
        c.map(x, 0, 1, 2, 3, 4);
        c.list(x, 1, 5, 6);
        for (int kind : new int[] {-1, 3, LEAST, MOST}) {
            c.due("make of kind " + kind, x.make(0, kind), BAD);
        }
        for (int place : NO_PLACES) {
            c.due("make at " + place, x.make(place, MAP), BAD);
            c.due("make nothing at " + place, x.make(place, NOTHING), BAD);
        }
        c.holdsMap(x, "after refusals", 0, 1, 2, 3, 4);
        c.due("make over a map", x.make(0, MAP), 0);
        c.holdsMap(x, "emptied", 0);
        c.due("no old value", x.value(0, 1), 0);
        c.holdsList(x, "the other place", 1, 5, 6);
        c.due("make over a list", x.make(1, NOTHING), 0);
        c.holdsNothing(x, "taken away", 1);
        c.due("no old element", x.at(1, 0), 0);
    }

    private static void copy() {
        c.promise("promise 3");
        PersistentShelf x = new PersistentShelf();
        c.map(x, 0, 1, 2, 3, 4);
        c.list(x, 1, 5, 6, 5);
        c.due("copy map", x.copy(0, 2), 2);
        c.holdsMap(x, "copied", 2, 1, 2, 3, 4);
        c.due("copy list over map", x.copy(1, 2), 3);
        c.holdsList(x, "copied", 2, 5, 6, 5);
        c.due("copy onto itself", x.copy(0, 0), 2);
        c.holdsMap(x, "onto itself", 0, 1, 2, 3, 4);
        c.due("change of the copy", x.insert(2, 0, 9, 2), 4);
        c.holdsList(x, "the source stays", 1, 5, 6, 5);
        c.due("change of the source", x.cut(1, 0, 3, 1), 0);
        c.holdsList(x, "the copy stays", 2, 9, 5, 6, 5);
        c.due("copy of an empty list", x.copy(1, 3), 0);
        c.holdsList(x, "empty list", 3);
        c.due("copy of nothing", x.copy(4, 0), KIND);
        for (int place : NO_PLACES) {
            c.due("copy from " + place, x.copy(place, 0), BAD);
            c.due("copy to " + place, x.copy(0, place), BAD);
            c.due("copy of nothing to " + place, x.copy(4, place), BAD);
        }
        c.holdsMap(x, "after refusals", 0, 1, 2, 3, 4);
    }

    private static void about() {
        c.promise("promise 17");
        PersistentShelf x = new PersistentShelf();
        c.map(x, 0, 7, 0, 0, 0);
        c.list(x, 7, 4, 4, 4);
        c.due("map's kind", x.about(0, 0), MAP);
        c.due("map's size", x.about(0, 1), 2);
        c.due("list's kind", x.about(7, 0), LIST);
        c.due("list's size", x.about(7, 1), 3);
        c.due("nothing's kind", x.about(3, 0), NOTHING);
        c.due("nothing's size", x.about(3, 1), 0);
        for (int place : NO_PLACES) {
            c.due("about " + place, x.about(place, 0), BAD);
            c.due("about " + place, x.about(place, 1), BAD);
        }
        for (int what : new int[] {-1, 2, LEAST, MOST}) {
            c.due("about what " + what, x.about(0, what), BAD);
            c.due("about nothing, what " + what, x.about(3, what), BAD);
        }
    }

    private static void same() {
        c.promise("promise 18");
        PersistentShelf x = new PersistentShelf();
        c.map(x, 0, 1, 2, 3, 4);
        c.map(x, 1, 3, 4, 1, 2);
        c.due("put in another order", x.same(0, 1), true);
        c.due("with itself", x.same(0, 0), true);
        c.due("other value", x.put(0, 3, 5, 1), 2);
        c.due("other value", x.same(0, 1), false);
        c.due("one key less", x.remove(0, 3, 1), 1);
        c.due("one key less", x.same(0, 1), false);
        c.due("one key less", x.same(1, 0), false);
        c.map(x, 1, 1, 2, 4, 4);
        c.due("other key", x.same(0, 1), false);
        c.list(x, 2, 1, 2, 3);
        c.list(x, 3, 1, 2, 3);
        c.due("same elements", x.same(2, 3), true);
        c.due("turned", x.turn(3, 3), 3);
        c.due("other order", x.same(2, 3), false);
        c.due("shorter", x.part(2, 0, 2, 3), 2);
        c.due("shorter", x.same(2, 3), false);
        c.due("shorter", x.same(3, 2), false);
        c.map(x, 4);
        c.list(x, 5);
        c.due("empty map and empty list", x.same(4, 5), false);
        c.map(x, 6);
        c.due("empty maps", x.same(4, 6), true);
        c.list(x, 6);
        c.due("empty lists", x.same(5, 6), true);
        c.due("nothing and nothing", x.same(7, 7), false);
        c.due("nothing and an empty map", x.same(7, 4), false);
        c.due("an empty list and nothing", x.same(5, 7), false);
        for (int place : NO_PLACES) {
            c.due("same with " + place, x.same(0, place), false);
            c.due("same of " + place, x.same(place, 0), false);
            c.due("same of " + place + " twice", x.same(place, place), false);
        }
        contentsThatWereLonger();
        contentsThatCameFromTheOtherKind();
    }

    private static void contentsThatWereLonger() {
        PersistentShelf x = new PersistentShelf();
        c.list(x, 0, 1, 2, 3);
        c.list(x, 1, 1, 8);
        c.due("shortened", x.part(0, 0, 1, 0), 1);
        c.due("shortened", x.part(1, 0, 1, 1), 1);
        c.due("what was behind does not count", x.same(0, 1), true);
    }

    private static void contentsThatCameFromTheOtherKind() {
        PersistentShelf x = new PersistentShelf();
        c.map(x, 0, 1, 9, 2, 8);
        c.due("keys", x.convert(0, 0, 1), 2);
        c.list(x, 2, 1, 2);
        c.due("keys against a made list", x.same(1, 2), true);
        c.due("keys over the map", x.convert(0, 0, 0), 2);
        c.due("keys over the map", x.same(0, 2), true);
        c.due("map and list of the same ints", x.convert(2, 3, 3), 2);
        c.due("map and list of the same ints", x.same(2, 3), false);
    }

    private static void objectsApart() {
        c.promise("promise 1");
        PersistentShelf x = new PersistentShelf();
        c.map(x, 0, 1, 2);
        PersistentShelf y = new PersistentShelf();
        c.holdsNothing(y, "second object", 0);
        c.list(y, 0, 3);
        c.holdsMap(x, "first object", 0, 1, 2);
    }
}
