import java.util.ArrayDeque;
import java.util.ArrayList;
import java.util.Arrays;
import java.util.HashSet;
import java.util.List;
import java.util.Set;
import java.util.TreeSet;

/**
 * The document once more, as slowly and plainly as can be: no masks, no order of parts, every
 * ask followed by itself, every way and set tried. ModelTest holds TermsDesk against it.
 */
final class Model {
    private static final int NONE = -1;

    private record Join(int from, int to, int kind) { }

    private record Change(int what, int which, int licence, int price) { }

    /** What may be other than it is, when one asks what would be. */
    private record World(List<Integer> taken, Set<Integer> live) { }

    private final int[][] shippings = new int[8][8];
    private final int[][] kinds = new int[8][8];
    private final int[] barred = new int[8];
    private final List<List<Integer>> choices = new ArrayList<>();
    private final List<Integer> taken = new ArrayList<>();
    private final List<Join> joins = new ArrayList<>();
    private final Set<Integer> live = new TreeSet<>();
    private final Set<List<Integer>> exceptions = new HashSet<>();
    private final List<Change> changes = new ArrayList<>();
    private int product = 0;

    private static boolean from0(int x, int last) {
        return 0 <= x && x <= last;
    }

    private boolean isPart(int p) {
        return from0(p, choices.size() - 1);
    }

    private World now() {
        return new World(taken, live);
    }

    boolean asks(int l, int d, int ships, int alongs) {
        if (!from0(l, 7) || !from0(d, 7) || !from0(ships, 15) || !from0(alongs, 15)) return false;
        shippings[l][d] = ships;
        kinds[l][d] = alongs;
        return true;
    }

    boolean bars(int l, int set) {
        if (!from0(l, 7) || !from0(set, 255)) return false;
        barred[l] = set;
        return true;
    }

    int part(int a, int b, int c) {
        List<Integer> row = new ArrayList<>(List.of(a));
        if (b != NONE) row.add(b);
        if (c != NONE) row.add(c);
        if (b == NONE && c != NONE) return NONE;
        for (int l : row) if (!from0(l, 7)) return NONE;
        if (new HashSet<>(row).size() != row.size() || choices.size() == 24) return NONE;
        choices.add(row);
        taken.add(a);
        return choices.size() - 1;
    }

    boolean take(int p, int i) {
        if (!isPart(p) || !from0(i, choices.get(p).size() - 1)) return false;
        if (taken.get(p).intValue() == choices.get(p).get(i).intValue()) return false;
        taken.set(p, choices.get(p).get(i));
        return true;
    }

    int join(int a, int b, int kind) {
        if (!isPart(a) || !isPart(b) || !from0(kind, 3) || joins.size() == 40) return NONE;
        for (int j : live) if (joins.get(j).from == a && joins.get(j).to == b) return NONE;
        if (allIn(now(), a).contains(b)) return NONE;
        joins.add(new Join(a, b, kind));
        live.add(joins.size() - 1);
        return joins.size() - 1;
    }

    boolean cut(int j) {
        return live.remove(j);
    }

    boolean except(int p, int l, int d) {
        return isPart(p) && from0(l, 7) && from0(d, 7) && exceptions.add(List.of(p, l, d));
    }

    boolean product(int p) {
        if (!isPart(p)) return false;
        product = p;
        return true;
    }

    int change(int what, int which, int l, int price) {
        if (!from0(what, 1) || !from0(price, 100000) || changes.size() == 10) return NONE;
        if (what == 0 && (!isPart(which) || !from0(l, 7))) return NONE;
        if (what == 1 && !from0(which, joins.size() - 1)) return NONE;
        changes.add(new Change(what, which, l, price));
        return changes.size() - 1;
    }

    /** The part and all that are in it. */
    private Set<Integer> allIn(World w, int top) {
        Set<Integer> all = new TreeSet<>(Set.of(top));
        boolean grown = true;
        while (grown) {
            grown = false;
            for (int j : w.live) if (all.contains(joins.get(j).to)) grown |= all.add(joins.get(j).from);
        }
        return all;
    }

    private Set<Integer> ofProduct(World w) {
        return choices.isEmpty() ? new TreeSet<>() : allIn(w, product);
    }

    private boolean brings(World w, int s, int p, int l, int d) {
        return w.taken.get(p) == l && (shippings[l][d] >> s & 1) == 1 && !exceptions.contains(List.of(p, l, d));
    }

    private boolean goes(int j, int l, int d) {
        return (kinds[l][d] >> joins.get(j).kind & 1) == 1;
    }

    /** All parts to which an ask comes that the parts of a set bring. */
    private Set<Integer> spread(World w, Set<Integer> bringers, int l, int d) {
        Set<Integer> all = new TreeSet<>(bringers);
        ArrayDeque<Integer> todo = new ArrayDeque<>(bringers);
        while (!todo.isEmpty()) {
            int p = todo.remove();
            for (int j : w.live) {
                Join x = joins.get(j);
                if (x.from == p && goes(j, l, d) && all.add(x.to)) todo.add(x.to);
            }
        }
        return all;
    }

    private Set<Integer> bringers(World w, int s, int l, int d) {
        Set<Integer> all = new TreeSet<>();
        for (int p = 0; p < choices.size(); p++) if (brings(w, s, p, l, d)) all.add(p);
        return all;
    }

    /** By part, the rows {licence, ask} that have come to it. */
    private List<Set<List<Integer>>> come(World w, int s) {
        List<Set<List<Integer>>> all = new ArrayList<>();
        for (int p = 0; p < choices.size(); p++) all.add(new HashSet<>());
        for (int l = 0; l < 8; l++)
            for (int d = 0; d < 8; d++)
                for (int p : spread(w, bringers(w, s, l, d), l, d)) all.get(p).add(List.of(l, d));
        return all;
    }

    private Set<Integer> quarrelsOf(World w, int s, List<Set<List<Integer>>> come) {
        Set<Integer> all = new TreeSet<>();
        for (int p : ofProduct(w))
            for (List<Integer> x : come.get(p)) {
                int own = w.taken.get(p);
                if (x.get(0) != own && (barred[own] >> x.get(1) & 1) == 1)
                    all.add(64 * p + 8 * x.get(0) + x.get(1));
            }
        return all;
    }

    int come(int s, int p, int l) {
        if (!from0(s, 3) || !isPart(p) || !from0(l, 7)) return NONE;
        int bits = 0;
        for (List<Integer> x : come(now(), s).get(p)) if (x.get(0) == l) bits += 1 << x.get(1);
        return bits;
    }

    int quarrels(int s) {
        return from0(s, 3) ? quarrelsOf(now(), s, come(now(), s)).size() : NONE;
    }

    int quarrel(int s, int i) {
        return from0(s, 3) ? at(new ArrayList<>(quarrelsOf(now(), s, come(now(), s))), i) : NONE;
    }

    private static int at(List<Integer> row, int i) {
        return from0(i, row.size() - 1) ? row.get(i) : NONE;
    }

    int ways() {
        long ways = 1;
        for (int p : ofProduct(now())) ways *= choices.get(p).size();
        return ways > 6561 ? NONE : (int) ways;
    }

    int judge(int s) {
        if (!from0(s, 3) || choices.isEmpty() || ways() == NONE) return NONE;
        List<Integer> mine = new ArrayList<>(ofProduct(now()));
        int[] row = new int[mine.size()];
        int[] best = null;
        List<Integer> bestTaken = null;
        boolean more = true;
        while (more) {
            List<Integer> tried = new ArrayList<>(taken);
            for (int k = 0; k < row.length; k++) tried.set(mine.get(k), choices.get(mine.get(k)).get(row[k]));
            World w = new World(tried, live);
            List<Set<List<Integer>>> come = come(w, s);
            int[] worth = {quarrelsOf(w, s, come).size(), come.get(product).size()};
            // The rows come in their order, the least one first: so only better ones replace it.
            if (best == null || Arrays.compare(worth, best) < 0) {
                best = worth;
                bestTaken = tried;
            }
            int k = row.length - 1;
            while (k >= 0 && ++row[k] == choices.get(mine.get(k)).size()) row[k--] = 0;
            more = k >= 0;
        }
        for (int p = 0; p < taken.size(); p++) taken.set(p, bestTaken.get(p));
        return best[0];
    }

    int cheapest(int s) {
        if (!from0(s, 3)) return NONE;
        int best = NONE;
        for (int set = 0; set < 1 << changes.size(); set++) {
            List<Integer> tried = new ArrayList<>(taken);
            Set<Integer> left = new TreeSet<>(live);
            for (int c = 0; c < changes.size(); c++) {
                Change x = changes.get(c);
                if ((set >> c & 1) == 0) continue;
                if (x.what == 0) tried.set(x.which, x.licence);
                else left.remove(x.which);
            }
            if (best != NONE && !cheaper(set, best)) continue;
            World w = new World(tried, left);
            if (quarrelsOf(w, s, come(w, s)).isEmpty()) best = set;
        }
        return best;
    }

    private boolean cheaper(int x, int y) {
        if (price(x) != price(y)) return price(x) < price(y);
        if (Integer.bitCount(x) != Integer.bitCount(y)) return Integer.bitCount(x) < Integer.bitCount(y);
        for (int c = 0; c < changes.size(); c++)
            if ((x >> c & 1) != (y >> c & 1)) return (x >> c & 1) == 1;
        return false;
    }

    int price(int set) {
        if (set < 0 || set >= 1 << changes.size()) return NONE;
        int sum = 0;
        for (int c = 0; c < changes.size(); c++) if ((set >> c & 1) == 1) sum += changes.get(c).price;
        return sum;
    }

    int way(int s, int l, int d, int p, int i) {
        if (!from0(s, 3) || !from0(l, 7) || !from0(d, 7) || !isPart(p)) return NONE;
        for (int size = 1; size <= choices.size(); size++)
            for (int first : bringers(now(), s, l, d)) {
                List<Integer> row = new ArrayList<>(List.of(first));
                if (reach(row, size, l, d, p)) return at(row, i);
            }
        return NONE;
    }

    /** Whether the row can go on to part p with so many parts in all; it holds the least such way then. */
    private boolean reach(List<Integer> row, int size, int l, int d, int p) {
        int last = row.get(row.size() - 1);
        if (row.size() == size) return last == p;
        Set<Integer> nexts = new TreeSet<>();
        for (int j : live) if (joins.get(j).from == last && goes(j, l, d)) nexts.add(joins.get(j).to);
        for (int next : nexts) {
            row.add(next);
            if (reach(row, size, l, d, p)) return true;
            row.remove(row.size() - 1);
        }
        return false;
    }

    int notice(int s, int i) {
        if (!from0(s, 3)) return NONE;
        List<Integer> all = new ArrayList<>();
        for (int p = 0; p < choices.size(); p++) {
            int l = taken.get(p);
            if (brings(now(), s, p, l, 0) && spread(now(), Set.of(p), l, 0).contains(product)) all.add(p);
        }
        return at(all, i);
    }

    int differ(int s, int t, int i) {
        if (!from0(s, 3) || !from0(t, 3)) return NONE;
        List<Integer> all = new ArrayList<>();
        for (int p : ofProduct(now()))
            if (!come(now(), s).get(p).equals(come(now(), t).get(p))) all.add(p);
        return at(all, i);
    }

    int look(int p, int what) {
        if (!isPart(p)) return NONE;
        int in = 0;
        int out = 0;
        for (int j : live) {
            if (joins.get(j).to == p) in++;
            if (joins.get(j).from == p) out++;
        }
        if (what == 0) return taken.get(p);
        if (what == 1) return choices.get(p).size();
        if (what == 2) return ofProduct(now()).contains(p) ? 1 : 0;
        if (what == 3) return in;
        if (what == 4) return out;
        return from0(what, 7) ? at(choices.get(p), what - 5) : NONE;
    }

    int count(int what) {
        if (what == 0) return choices.size();
        if (what == 1) return joins.size();
        if (what == 2) return live.size();
        if (what == 3) return ofProduct(now()).size();
        if (what == 4) return changes.size();
        if (what == 5) return product;
        return what == 6 ? ways() : NONE;
    }
}
