/** Counts answers that are not as due; a boolean counts 1 or 0. */
final class Checks {
    private int wrong = 0;
    private int made = 0;
    private String promise = "";

    void promise(String name) {
        promise = name;
    }

    void due(String call, long got, long want) {
        made++;
        if (got != want) {
            wrong++;
            System.out.println(promise + ": " + call + " answered " + got + ", due is " + want);
        }
    }

    void due(String call, boolean got, boolean want) {
        due(call, got ? 1 : 0, want ? 1 : 0);
    }

    void due(String call, String got, String want) {
        made++;
        if (!got.equals(want)) {
            wrong++;
            System.out.println(promise + ": " + call + " told '" + got + "', due is '" + want + "'");
        }
    }

    /** Makes every call on a newly filled shelf: its answer is due, and that nothing has changed. */
    void refused(Stock.Row... rows) {
        String[] before = Stock.look(Stock.filled());
        for (Stock.Row row : rows) {
            PersistentShelf x = Stock.filled();
            due(row.name(), row.call().on(x), row.due());
            unchanged(row.name(), before, Stock.look(x), -1);
        }
    }

    /** All places but one are as before. */
    void unchanged(String when, String[] before, String[] after, int but) {
        for (int place = 0; place < 8; place++) {
            if (place != but) {
                due("after " + when + ", place " + place, after[place], before[place]);
            }
        }
    }

    /** Builds a map in a place from keys and values in turns. */
    void map(PersistentShelf x, int place, int... pairs) {
        due("make(" + place + ", MAP)", x.make(place, PersistentShelf.MAP), 0);
        for (int n = 0; n + 1 < pairs.length; n += 2) {
            due("put " + pairs[n], x.put(place, pairs[n], pairs[n + 1], place), n / 2 + 1);
        }
    }

    /** Builds a list in a place. */
    void list(PersistentShelf x, int place, int... elements) {
        due("make(" + place + ", LIST)", x.make(place, PersistentShelf.LIST), 0);
        for (int n = 0; n < elements.length; n++) {
            due("insert " + elements[n], x.insert(place, n, elements[n], place), n + 1);
        }
    }

    void holdsMap(PersistentShelf x, String when, int place, int... pairs) {
        due(when + ": kind of " + place, x.about(place, 0), PersistentShelf.MAP);
        due(when + ": size of " + place, x.about(place, 1), pairs.length / 2);
        for (int n = 0; n + 1 < pairs.length; n += 2) {
            due(when + ": key(" + place + ", " + n / 2 + ")", x.key(place, n / 2), pairs[n]);
            due(when + ": value(" + place + ", " + pairs[n] + ")", x.value(place, pairs[n]), pairs[n + 1]);
        }
    }

    void holdsList(PersistentShelf x, String when, int place, int... elements) {
        due(when + ": kind of " + place, x.about(place, 0), PersistentShelf.LIST);
        due(when + ": size of " + place, x.about(place, 1), elements.length);
        for (int n = 0; n < elements.length; n++) {
            due(when + ": at(" + place + ", " + n + ")", x.at(place, n), elements[n]);
        }
    }

    void holdsNothing(PersistentShelf x, String when, int place) {
        due(when + ": kind of " + place, x.about(place, 0), PersistentShelf.NOTHING);
        due(when + ": size of " + place, x.about(place, 1), 0);
    }

    void end() {
        System.out.println(made + " answers, " + wrong + " not as due");
        if (wrong != 0) {
            System.exit(1);
        }
    }
}
