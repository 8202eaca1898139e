import java.util.ArrayList;
import java.util.Collections;
import java.util.List;
import java.util.TreeMap;

/**
 * Runs of 512 mixed calls, right and wrong, against a model that keeps TreeMaps and ArrayLists.
 * A third of the runs look into every place after every step, to see that nothing else has
 * changed; those looks count towards the 512 calls that one object is used for.
 */
public final class ModelTest {
    private static final int BAD = -1, KIND = -2, INDEX = -3, FULL = -4;
    private static final int CALLS = 512;
    private static final int RUNS = 3000;
    private static final int[] EDGES = {Integer.MIN_VALUE, -1, 0, 1, Integer.MAX_VALUE - 1, Integer.MAX_VALUE};

    private static final Checks c = new Checks();

    private final PersistentShelf x = new PersistentShelf();
    // A place has a TreeMap<Integer, Integer>, a List<Integer> or null.
    private final Object[] places = new Object[8];
    private final int span;
    private final boolean watchful;
    private long seed;
    private int left = CALLS;

    private ModelTest(int run) {
        seed = run * 7919L + 1;
        span = 2 + run % 60;
        watchful = run % 3 == 0;
    }

    public static void main(String[] args) {
        for (int run = 0; run < RUNS; run++) {
            c.promise("model, run " + run);
            new ModelTest(run).run();
        }
        c.end();
    }

    private void run() {
        // Most places start filled, and some nearly full, so that FULL is met often.
        for (int place = 0; place < 6; place++) {
            fill(place);
        }
        while (left > 0) {
            int before = left;
            step();
            if (watchful && before > 24) {
                lookAtAll();
            }
        }
    }

    private void fill(int place) {
        boolean map = chance(2);
        make(place, map ? 1 : 2);
        int times = below(map ? 26 : 50);
        for (int n = 0; n < times && left > 60; n++) {
            if (map) {
                put(place, number(), number(), place);
            } else {
                insert(place, n, number(), place);
            }
        }
    }

    private void step() {
        switch (below(22)) {
            case 0: make(place(), choice(0, 2)); break;
            case 1: copy(place(), place()); break;
            case 2: case 3: put(place(), number(), number(), place()); break;
            case 4: remove(place(), number(), place()); break;
            case 5: case 6: case 7: merge(place(), place(), choice(0, 5), place()); break;
            case 8: value(place(), number()); break;
            case 9: key(place(), index(24)); break;
            case 10: case 11: insert(place(), index(48), number(), place()); break;
            case 12: cut(place(), index(48), index(48), place()); break;
            case 13: part(place(), index(48), index(48), place()); break;
            case 14: case 15: join(place(), place(), place()); break;
            case 16: turn(place(), place()); break;
            case 17: at(place(), index(48)); break;
            case 18: sum(place(), index(48), index(48)); break;
            case 19: case 20: convert(place(), choice(0, 3), place()); break;
            default: about(place(), choice(0, 1)); same(place(), place());
        }
    }

    /** Looks at the kind or size of every place and at one of its items. */
    private void lookAtAll() {
        for (int p = 0; p < 8 && left > 0; p++) {
            about(p, below(2));
            if (left > 0 && map(p) != null && !map(p).isEmpty()) {
                int i = below(map(p).size());
                key(p, i);
                value(p, new ArrayList<>(map(p).keySet()).get(i));
            } else if (left > 0 && list(p) != null && !list(p).isEmpty()) {
                at(p, below(list(p).size()));
            }
        }
    }

    // The calls: each is made on the object and worked out from the model.

    private void make(int to, int kind) {
        int due = 0;
        if (outside(to) || kind < 0 || kind > 2) {
            due = BAD;
        } else {
            places[to] = kind == 0 ? null : kind == 1 ? new TreeMap<Integer, Integer>() : new ArrayList<Integer>();
        }
        check("make(" + to + ", " + kind + ")", x.make(to, kind), due);
    }

    private void copy(int from, int to) {
        int due = outside(from) || outside(to) ? BAD : places[from] == null ? KIND : keep(places[from], to);
        check("copy(" + from + ", " + to + ")", x.copy(from, to), due);
    }

    private void put(int from, int k, int v, int to) {
        int due = outside(from) || outside(to) ? BAD : KIND;
        if (due == KIND && map(from) != null) {
            TreeMap<Integer, Integer> made = new TreeMap<>(map(from));
            made.put(k, v);
            due = keep(made, to);
        }
        check("put(" + from + ", " + k + ", " + v + ", " + to + ")", x.put(from, k, v, to), due);
    }

    private void remove(int from, int k, int to) {
        int due = outside(from) || outside(to) ? BAD : KIND;
        if (due == KIND && map(from) != null) {
            TreeMap<Integer, Integer> made = new TreeMap<>(map(from));
            made.remove(k);
            due = keep(made, to);
        }
        check("remove(" + from + ", " + k + ", " + to + ")", x.remove(from, k, to), due);
    }

    private void merge(int a, int b, int how, int to) {
        int due = outside(a) || outside(b) || outside(to) || how < 0 || how > 5 ? BAD : KIND;
        if (due == KIND && map(a) != null && map(b) != null) {
            due = keep(merged(map(a), map(b), how), to);
        }
        check("merge(" + a + ", " + b + ", " + how + ", " + to + ")", x.merge(a, b, how, to), due);
    }

    private static TreeMap<Integer, Integer> merged(TreeMap<Integer, Integer> a, TreeMap<Integer, Integer> b, int how) {
        TreeMap<Integer, Integer> made = new TreeMap<>(a);
        switch (how) {
            case 0: made.putAll(b); made.putAll(a); break;
            case 1: made.putAll(b); break;
            case 2: b.forEach((k, v) -> made.merge(k, v, (p, q) -> p + q)); break;
            case 3: made.keySet().retainAll(b.keySet()); break;
            case 4: made.keySet().removeAll(b.keySet()); break;
            default:
                made.putAll(b);
                made.keySet().removeIf(k -> a.containsKey(k) && b.containsKey(k));
        }
        return made;
    }

    private void value(int from, int k) {
        int due = outside(from) || map(from) == null ? 0 : map(from).getOrDefault(k, 0);
        check("value(" + from + ", " + k + ")", x.value(from, k), due);
    }

    private void key(int from, int i) {
        int due = 0;
        if (!outside(from) && map(from) != null && i >= 0 && i < map(from).size()) {
            due = new ArrayList<>(map(from).keySet()).get(i);
        }
        check("key(" + from + ", " + i + ")", x.key(from, i), due);
    }

    private void insert(int from, int i, int v, int to) {
        int due = outside(from) || outside(to) ? BAD : list(from) == null ? KIND : INDEX;
        if (due == INDEX && i >= 0 && i <= list(from).size()) {
            List<Integer> made = new ArrayList<>(list(from));
            made.add(i, v);
            due = keep(made, to);
        }
        check("insert(" + from + ", " + i + ", " + v + ", " + to + ")", x.insert(from, i, v, to), due);
    }

    private void cut(int from, int i, int j, int to) {
        int due = refusalOfRange(from, i, j, to);
        if (due == 0) {
            List<Integer> made = new ArrayList<>(list(from));
            made.subList(i, j).clear();
            due = keep(made, to);
        }
        check("cut(" + from + ", " + i + ", " + j + ", " + to + ")", x.cut(from, i, j, to), due);
    }

    private void part(int from, int i, int j, int to) {
        int due = refusalOfRange(from, i, j, to);
        if (due == 0) {
            due = keep(new ArrayList<>(list(from).subList(i, j)), to);
        }
        check("part(" + from + ", " + i + ", " + j + ", " + to + ")", x.part(from, i, j, to), due);
    }

    private int refusalOfRange(int from, int i, int j, int to) {
        if (outside(from) || outside(to)) {
            return BAD;
        }
        if (list(from) == null) {
            return KIND;
        }
        return i < 0 || j < i || j > list(from).size() ? INDEX : 0;
    }

    private void join(int a, int b, int to) {
        int due = outside(a) || outside(b) || outside(to) ? BAD : KIND;
        if (due == KIND && list(a) != null && list(b) != null) {
            List<Integer> made = new ArrayList<>(list(a));
            made.addAll(list(b));
            due = keep(made, to);
        }
        check("join(" + a + ", " + b + ", " + to + ")", x.join(a, b, to), due);
    }

    private void turn(int from, int to) {
        int due = outside(from) || outside(to) ? BAD : KIND;
        if (due == KIND && list(from) != null) {
            List<Integer> made = new ArrayList<>(list(from));
            Collections.reverse(made);
            due = keep(made, to);
        }
        check("turn(" + from + ", " + to + ")", x.turn(from, to), due);
    }

    private void at(int from, int i) {
        boolean there = !outside(from) && list(from) != null && i >= 0 && i < list(from).size();
        check("at(" + from + ", " + i + ")", x.at(from, i), there ? list(from).get(i) : 0);
    }

    private void sum(int from, int i, int j) {
        long due = 0;
        if (!outside(from) && list(from) != null) {
            for (int n = 0; n < list(from).size(); n++) {
                due += i <= n && n < j ? list(from).get(n) : 0;
            }
        }
        check("sum(" + from + ", " + i + ", " + j + ")", x.sum(from, i, j), due);
    }

    private void convert(int from, int what, int to) {
        int due = outside(from) || outside(to) || what < 0 || what > 3 ? BAD : KIND;
        if (due == KIND && what < 2 && map(from) != null) {
            due = keep(new ArrayList<>(what == 0 ? map(from).keySet() : map(from).values()), to);
        } else if (due == KIND && what >= 2 && list(from) != null) {
            List<Integer> list = list(from);
            TreeMap<Integer, Integer> made = new TreeMap<>();
            for (int e : list) {
                made.put(e, what == 2 ? Collections.frequency(list, e) : list.lastIndexOf(e));
            }
            due = keep(made, to);
        }
        check("convert(" + from + ", " + what + ", " + to + ")", x.convert(from, what, to), due);
    }

    private void about(int place, int what) {
        int due = BAD;
        if (!outside(place) && what == 0) {
            due = map(place) != null ? 1 : list(place) != null ? 2 : 0;
        } else if (!outside(place) && what == 1) {
            due = sizeOf(places[place]);
        }
        check("about(" + place + ", " + what + ")", x.about(place, what), due);
    }

    private void same(int a, int b) {
        boolean due = !outside(a) && !outside(b) && places[a] != null && places[a].equals(places[b]);
        check("same(" + a + ", " + b + ")", x.same(a, b) ? 1 : 0, due ? 1 : 0);
    }

    private void check(String call, long got, long due) {
        // Later calls than the 512th are free in what they answer.
        if (left > 0) {
            c.due((CALLS - left + 1) + ". " + call, got, due);
        }
        left--;
    }

    // The model.

    private int keep(Object made, int to) {
        int size = sizeOf(made);
        if (size > (made instanceof TreeMap ? 24 : 48)) {
            return FULL;
        }
        places[to] = made;
        return size;
    }

    private static int sizeOf(Object held) {
        return held instanceof TreeMap ? ((TreeMap<?, ?>) held).size() : held == null ? 0 : ((List<?>) held).size();
    }

    @SuppressWarnings("unchecked")
    private TreeMap<Integer, Integer> map(int place) {
        return places[place] instanceof TreeMap ? (TreeMap<Integer, Integer>) places[place] : null;
    }

    @SuppressWarnings("unchecked")
    private List<Integer> list(int place) {
        return places[place] instanceof List ? (List<Integer>) places[place] : null;
    }

    private static boolean outside(int place) {
        return place < 0 || place > 7;
    }

    // The arguments: worked out from the run's number alone, so that every run is told again alike.

    private int below(int bound) {
        seed = seed * 6364136223846793005L + 1442695040888963407L;
        return (int) ((seed >>> 33) % bound);
    }

    private boolean chance(int oneIn) {
        return below(oneIn) == 0;
    }

    private int place() {
        return chance(40) ? (chance(2) ? EDGES[below(EDGES.length)] : 8) : below(8);
    }

    private int choice(int least, int most) {
        return chance(20) ? (chance(2) ? EDGES[below(EDGES.length)] : most + 1) : least + below(most - least + 1);
    }

    private int number() {
        return chance(10) ? EDGES[below(EDGES.length)] : below(span) - span / 3;
    }

    private int index(int most) {
        return chance(15) ? EDGES[below(EDGES.length)] : chance(2) ? below(6) : below(most + 3) - 1;
    }
}
