import java.util.ArrayList;
import java.util.Arrays;
import java.util.HashMap;
import java.util.HashSet;
import java.util.List;
import java.util.Map;
import java.util.NoSuchElementException;
import java.util.Set;

/** The document word by word, without any thought of speed: every answer is made anew out of the list of events. */
final class NaiveCloser {
    static final int TERM = 0;
    static final int SAME = 1;
    static final int DIFF = 2;
    private static final long CAP = 1000000000L;

    /** What there is once all of a list of events have come. */
    static final class World {
        final List<int[]> terms = new ArrayList<>();
        final List<int[]> sames = new ArrayList<>();
        final List<int[]> diffs = new ArrayList<>();
        /** First, second, SAME or -2. */
        final List<int[]> joins = new ArrayList<>();
        final int[] parent = new int[40];
        final int[] parentJoin = new int[40];
        /** Forgotten at each JOIN. */
        private final Map<Integer, Set<Integer>> reached = new HashMap<>();

        World(List<int[]> events) {
            for (int[] event : events) {
                come(event);
            }
        }

        void come(int[] event) {
            if (event[0] == DIFF) {
                diffs.add(event);
                return;
            }
            if (event[0] == TERM) {
                parent[terms.size()] = -2;
                terms.add(event);
            } else {
                sames.add(event);
                if (!one(event[1], event[2])) {
                    join(event[1], event[2], sames.size() - 1);
                }
            }
            boolean found = true;
            while (found) {
                found = false;
                for (int i = 0; i < terms.size() && !found; i++) {
                    for (int j = i + 1; j < terms.size() && !found; j++) {
                        if (!one(i, j) && alike(i, j)) {
                            join(i, j, -2);
                            found = true;
                        }
                    }
                }
            }
        }

        boolean one(int i, int j) {
            return reached.computeIfAbsent(i, this::reachedFrom).contains(j);
        }

        private Set<Integer> reachedFrom(int i) {
            Set<Integer> reached = new HashSet<>(List.of(i));
            boolean more = true;
            while (more) {
                more = false;
                for (int[] join : joins) {
                    if (reached.contains(join[0]) != reached.contains(join[1])) {
                        reached.add(join[0]);
                        reached.add(join[1]);
                        more = true;
                    }
                }
            }
            return reached;
        }

        int arity(int t) {
            return terms.get(t).length - 2;
        }

        int part(int t, int k) {
            return terms.get(t)[k + 2];
        }

        boolean alike(int i, int j) {
            if (terms.get(i)[1] != terms.get(j)[1]) {
                return false;
            }
            for (int k = 0; k < arity(i); k++) {
                if (!one(part(i, k), part(j, k))) {
                    return false;
                }
            }
            return true;
        }

        void join(int a, int b, int same) {
            List<Integer> way = wayUp(b);
            for (int k = way.size() - 1; k > 0; k--) {
                parent[way.get(k)] = way.get(k - 1);
                parentJoin[way.get(k)] = parentJoin[way.get(k - 1)];
            }
            parent[b] = a;
            parentJoin[b] = joins.size();
            joins.add(new int[] {a, b, same});
            reached.clear();
        }

        List<Integer> wayUp(int t) {
            List<Integer> way = new ArrayList<>();
            for (int at = t; at >= 0; at = parent[at]) {
                way.add(at);
            }
            return way;
        }

        int reasons(int t, int u) {
            return reasons(t, u, new HashMap<>());
        }

        /** Of each JOIN once in an answer, as towers ask for the same ones again and again. */
        private int reasons(int t, int u, Map<Integer, Integer> known) {
            List<Integer> first = wayUp(t);
            List<Integer> second = wayUp(u);
            int bits = 0;
            for (int at : first) {
                if (second.contains(at)) {
                    break;
                }
                bits |= reasonsOfJoin(parentJoin[at], known);
            }
            for (int at : second) {
                if (first.contains(at)) {
                    break;
                }
                bits |= reasonsOfJoin(parentJoin[at], known);
            }
            return bits;
        }

        private int reasonsOfJoin(int k, Map<Integer, Integer> known) {
            if (known.containsKey(k)) {
                return known.get(k);
            }
            int[] join = joins.get(k);
            if (join[2] >= 0) {
                return 1 << join[2];
            }
            int bits = 0;
            for (int p = 0; p < arity(join[0]); p++) {
                bits |= reasons(part(join[0], p), part(join[1], p), known);
            }
            known.put(k, bits);
            return bits;
        }

        int lead(int t) {
            for (int s = 0; s < t; s++) {
                if (one(s, t)) {
                    return s;
                }
            }
            return t;
        }

        int groups() {
            int n = 0;
            for (int t = 0; t < terms.size(); t++) {
                n += lead(t) == t ? 1 : 0;
            }
            return n;
        }

        int clash() {
            for (int k = 0; k < diffs.size(); k++) {
                if (one(diffs.get(k)[1], diffs.get(k)[2])) {
                    return k;
                }
            }
            return -2;
        }
    }

    private final List<Byte> tape = new ArrayList<>();
    private final List<int[]> events = new ArrayList<>();
    private List<Integer> takes = new ArrayList<>();
    private List<String> names = new ArrayList<>();
    private int textEvents;
    private int trouble;
    private int fault;
    private int where = -1;
    private World world = new World(events);
    private boolean[][][] byTable = new boolean[1][][];
    /** Forgotten at each change. */
    private long[][] costTable;

    private int no(int number) {
        trouble = number;
        where = -1;
        return -1;
    }

    private int ok(int value) {
        trouble = 0;
        where = -1;
        return value;
    }

    private void changed() {
        world = new World(events);
        costTable = null;
        byTable = new boolean[1 << world.sames.size()][][];
    }

    private boolean isTerm(int t) {
        return 0 <= t && t < world.terms.size();
    }

    private boolean in(int k, int n) {
        return 0 <= k && k < n;
    }

    private int sames() {
        return world.sames.size();
    }

    private int all() {
        return (1 << sames()) - 1;
    }

    int worldTerms() {
        return world.terms.size();
    }

    int worldSames() {
        return sames();
    }

    int worldFunctions() {
        return takes.size();
    }

    int worldFunctionOf(int t) {
        return world.terms.get(t)[1];
    }

    int[] worldParts(int t) {
        return isTerm(t) ? Arrays.copyOfRange(world.terms.get(t), 2, world.terms.get(t).length) : new int[0];
    }

    boolean worldOne(int t, int u) {
        return world.one(t, u);
    }

    int feed(int a, int b, int c, int d, int e) {
        if (tape.size() + 20 > 500) {
            return -1;
        }
        for (int number : new int[] {a, b, c, d, e}) {
            for (int shift = 24; shift >= 0; shift -= 8) {
                tape.add((byte) (number >> shift));
            }
        }
        return tape.size();
    }

    int text(int n) {
        if (n < 0 || n > tape.size()) {
            return no(2);
        }
        byte[] bytes = new byte[n];
        for (int k = 0; k < n; k++) {
            bytes[k] = tape.get(k);
        }
        tape.clear();
        NaiveText read = new NaiveText(bytes);
        fault = read.fault;
        if (fault != 0) {
            no(4);
            where = read.place;
            return -1;
        }
        events.clear();
        events.addAll(read.events);
        textEvents = events.size();
        takes = read.takes;
        names = read.terms;
        changed();
        return ok(names.size());
    }

    int fault() {
        return fault;
    }

    int where() {
        return where;
    }

    int size() {
        return tape.size();
    }

    int trouble() {
        return trouble;
    }

    int named(int n) {
        if (n < 0 || n > tape.size()) {
            throw new NoSuchElementException();
        }
        StringBuilder told = new StringBuilder();
        for (int k = 0; k < n; k++) {
            told.append((char) (tape.get(k) & 255));
        }
        String name = told.toString().replaceAll("^ +", "").replaceAll(" +$", "");
        if (!names.contains(name)) {
            throw new NoSuchElementException();
        }
        return names.indexOf(name);
    }

    int about(int what) {
        switch (what) {
            case 0: return ok(takes.size());
            case 1: return ok(world.terms.size());
            case 2: return ok(sames());
            case 3: return ok(world.diffs.size());
            case 4: return ok(world.groups());
            case 5: return ok(events.size() - textEvents);
            case 6: return ok(world.joins.size());
            case 7: return ok(world.clash());
            default: return no(1);
        }
    }

    int function(int f, int what) {
        if (!in(f, takes.size()) || !in(what, 3)) {
            return no(1);
        }
        Set<Integer> leads = new HashSet<>();
        int count = 0;
        for (int t = 0; t < world.terms.size(); t++) {
            if (world.terms.get(t)[1] == f) {
                count++;
                leads.add(world.lead(t));
            }
        }
        return ok(what == 0 ? takes.get(f) : what == 1 ? count : leads.size());
    }

    /** From the first TERM on, as PARTS are told ahead. */
    private int depth(int t) {
        int[] deep = new int[t + 1];
        for (int s = 0; s <= t; s++) {
            for (int k = 0; k < world.arity(s); k++) {
                deep[s] = Math.max(deep[s], deep[world.part(s, k)] + 1);
            }
        }
        return deep[t];
    }

    int term(int t, int what) {
        if (!isTerm(t) || !in(what, 6)) {
            return no(1);
        }
        int members = 0;
        int above = 0;
        for (int s = 0; s < world.terms.size(); s++) {
            members += world.one(s, t) ? 1 : 0;
            boolean has = false;
            for (int k = 0; k < world.arity(s); k++) {
                has |= world.one(world.part(s, k), t);
            }
            above += has ? 1 : 0;
        }
        int[] told = {world.terms.get(t)[1], world.lead(t), members, above, depth(t), world.parent[t]};
        return ok(told[what]);
    }

    int partOf(int t, int k) {
        if (!isTerm(t) || k < 0) {
            return no(1);
        }
        return ok(k < world.arity(t) ? world.part(t, k) : -2);
    }

    int sameOf(int k, int what) {
        if (!in(k, sames()) || !in(what, 3)) {
            return no(1);
        }
        int[] same = world.sames.get(k);
        return ok(what < 2 ? same[what + 1] : by(all() - (1 << k), same[1], same[2]) ? 1 : 0);
    }

    int diffOf(int k, int what) {
        if (!in(k, world.diffs.size()) || !in(what, 3)) {
            return no(1);
        }
        int[] diff = world.diffs.get(k);
        return ok(what < 2 ? diff[what + 1] : world.one(diff[1], diff[2]) ? 1 : 0);
    }

    int joinOf(int k, int what) {
        if (!in(k, world.joins.size()) || !in(what, 3)) {
            return no(1);
        }
        return ok(world.joins.get(k)[what]);
    }

    int height(int t) {
        return isTerm(t) ? ok(world.wayUp(t).size() - 1) : no(1);
    }

    int hung(int t, int i) {
        if (!isTerm(t) || i < 0) {
            return no(1);
        }
        List<Integer> on = new ArrayList<>();
        for (int s = 0; s < world.terms.size(); s++) {
            if (world.parent[s] == t) {
                on.add(s);
            }
        }
        return ok(i < on.size() ? on.get(i) : -2);
    }

    int equal(int t, int u) {
        return isTerm(t) && isTerm(u) ? ok(world.one(t, u) ? 1 : 0) : no(1);
    }

    int apart(int t, int u) {
        if (!isTerm(t) || !isTerm(u)) {
            return no(1);
        }
        for (int[] diff : world.diffs) {
            if (world.one(diff[1], t) && world.one(diff[2], u) || world.one(diff[2], t) && world.one(diff[1], u)) {
                return ok(1);
            }
        }
        return ok(0);
    }

    /** Which TERMS are one BY a set: a table that is closed by steps of every kind until none changes it. */
    private boolean[][] table(int set) {
        if (byTable[set] == null) {
            int n = world.terms.size();
            boolean[][] one = new boolean[n][n];
            for (int t = 0; t < n; t++) {
                one[t][t] = true;
            }
            for (int k = 0; k < sames(); k++) {
                if ((set >> k & 1) == 1) {
                    one[world.sames.get(k)[1]][world.sames.get(k)[2]] = true;
                    one[world.sames.get(k)[2]][world.sames.get(k)[1]] = true;
                }
            }
            boolean more = true;
            while (more) {
                chain(one);
                more = pairs(one, one);
            }
            byTable[set] = one;
        }
        return byTable[set];
    }

    private static void chain(boolean[][] one) {
        for (int m = 0; m < one.length; m++) {
            for (int i = 0; i < one.length; i++) {
                for (int j = 0; j < one.length && one[i][m]; j++) {
                    one[i][j] |= one[m][j];
                }
            }
        }
    }

    /** Adds to a table the pairs whose PARTS are one in another: did that change it? */
    private boolean pairs(boolean[][] below, boolean[][] one) {
        boolean more = false;
        for (int i = 0; i < one.length; i++) {
            for (int j = 0; j < one.length; j++) {
                boolean alike = world.terms.get(i)[1] == world.terms.get(j)[1];
                for (int k = 0; alike && k < world.arity(i); k++) {
                    alike = below[world.part(i, k)][world.part(j, k)];
                }
                more |= alike && !one[i][j];
                one[i][j] |= alike;
            }
        }
        return more;
    }

    private boolean by(int set, int t, int u) {
        return table(set)[t][u];
    }

    /** 0, or the number with which a call is refused that asks why two are one. */
    private int bad(int t, int u) {
        return !isTerm(t) || !isTerm(u) ? 1 : world.one(t, u) ? 0 : 5;
    }

    int reasons(int t, int u) {
        return bad(t, u) != 0 ? no(bad(t, u)) : ok(world.reasons(t, u));
    }

    int pruned(int t, int u) {
        if (bad(t, u) != 0) {
            return no(bad(t, u));
        }
        int set = all();
        for (int k = sames() - 1; k >= 0; k--) {
            if (by(set - (1 << k), t, u)) {
                set -= 1 << k;
            }
        }
        return ok(set);
    }

    int fewest(int t, int u) {
        if (bad(t, u) != 0) {
            return no(bad(t, u));
        }
        for (int many = 0; many <= 12; many++) {
            for (int set = 0; set <= all(); set++) {
                if (Integer.bitCount(set) == many && by(set, t, u)) {
                    return ok(set);
                }
            }
        }
        throw new IllegalStateException("two that are one, but not BY all SAMES");
    }

    int proves(int set, int t, int u) {
        if (!isTerm(t) || !isTerm(u)) {
            return no(1);
        }
        return in(set, all() + 1) ? ok(by(set, t, u) ? 1 : 0) : no(2);
    }

    int since(int t, int u) {
        if (bad(t, u) != 0) {
            return no(bad(t, u));
        }
        int k = 0;
        while (!by((1 << k) - 1, t, u)) {
            k++;
        }
        return ok(k);
    }

    int needed(int t, int u) {
        if (bad(t, u) != 0) {
            return no(bad(t, u));
        }
        int bits = 0;
        for (int k = 0; k < sames(); k++) {
            bits += by(all() - (1 << k), t, u) ? 0 : 1 << k;
        }
        return ok(bits);
    }

    int many(int t, int u) {
        if (bad(t, u) != 0) {
            return no(bad(t, u));
        }
        int count = 0;
        for (int set = 0; set <= all(); set++) {
            boolean least = by(set, t, u);
            for (int k = 0; least && k < sames(); k++) {
                least = (set >> k & 1) == 0 || !by(set - (1 << k), t, u);
            }
            count += least ? 1 : 0;
        }
        return ok(count);
    }

    int base() {
        int set = all();
        for (int k = sames() - 1; k >= 0; k--) {
            if (by(set - (1 << k), world.sames.get(k)[1], world.sames.get(k)[2])) {
                set -= 1 << k;
            }
        }
        return set;
    }

    int level(int t, int u) {
        if (bad(t, u) != 0) {
            return no(bad(t, u));
        }
        int n = world.terms.size();
        boolean[][] below = new boolean[n][n];
        for (int s = 0; s < n; s++) {
            below[s][s] = true;
        }
        for (int[] same : world.sames) {
            below[same[1]][same[2]] = true;
            below[same[2]][same[1]] = true;
        }
        chain(below);
        int level = 0;
        while (!below[t][u]) {
            boolean[][] one = new boolean[n][];
            for (int s = 0; s < n; s++) {
                one[s] = below[s].clone();
            }
            pairs(below, one);
            chain(one);
            below = one;
            level++;
        }
        return ok(level);
    }

    /** What a step between two costs that stand side by side; -1 of others. */
    private long step(long[][] cost, int i, int j) {
        long least = -1;
        for (int[] same : world.sames) {
            if (same[1] == i && same[2] == j || same[1] == j && same[2] == i) {
                least = 1;
            }
        }
        if (world.alike(i, j)) {
            long sum = 0;
            for (int k = 0; k < world.arity(i); k++) {
                sum = Math.min(CAP, sum + cost[world.part(i, k)][world.part(j, k)]);
            }
            least = least < 0 ? sum : Math.min(least, sum);
        }
        return least;
    }

    private long[][] costs() {
        if (costTable == null) {
            costTable = costsAnew();
        }
        return costTable;
    }

    /** From above: no COST is known at first, and each round uses those of the round ahead. */
    private long[][] costsAnew() {
        int n = world.terms.size();
        long[][] cost = new long[n][n];
        for (int i = 0; i < n; i++) {
            Arrays.fill(cost[i], CAP);
            cost[i][i] = 0;
        }
        while (true) {
            long[][] next = new long[n][n];
            for (int i = 0; i < n; i++) {
                for (int j = 0; j < n; j++) {
                    long step = i == j ? 0 : step(cost, i, j);
                    next[i][j] = step < 0 ? CAP : step;
                }
            }
            for (int m = 0; m < n; m++) {
                for (int i = 0; i < n; i++) {
                    for (int j = 0; j < n; j++) {
                        next[i][j] = Math.min(next[i][j], next[i][m] + next[m][j]);
                    }
                }
            }
            if (Arrays.deepEquals(cost, next)) {
                return cost;
            }
            cost = next;
        }
    }

    int cost(int t, int u) {
        return bad(t, u) != 0 ? no(bad(t, u)) : ok((int) costs()[t][u]);
    }

    int way(int t, int u, int i) {
        if (i < 0) {
            return no(1);
        }
        if (bad(t, u) != 0) {
            return no(bad(t, u));
        }
        long[][] cost = costs();
        int n = world.terms.size();
        long[][] step = new long[n][n];
        for (int a = 0; a < n; a++) {
            for (int b = 0; b < n; b++) {
                step[a][b] = step(cost, a, b);
            }
        }
        for (int steps = 0; ; steps++) {
            List<Integer> way = new ArrayList<>(List.of(t));
            if (walk(step, cost, way, u, 0, cost[t][u], steps, new HashSet<>())) {
                return ok(i < way.size() ? way.get(i) : -2);
            }
        }
    }

    /** The first way, by its TERMS, with so many steps more and that sum in all; if all are at the top, any sum is that. */
    private boolean walk(long[][] step, long[][] cost, List<Integer> way, int u, long sum, long due, int steps, Set<String> vain) {
        int at = way.get(way.size() - 1);
        if (steps == 0) {
            return at == u && Math.min(sum, CAP) == due;
        }
        if (due < CAP && sum + cost[at][u] > due || !vain.add(at + " " + steps + " " + (due < CAP ? sum : CAP))) {
            return false;
        }
        for (int v = 0; v < step.length; v++) {
            if (step[at][v] >= 0) {
                way.add(v);
                if (walk(step, cost, way, u, sum + step[at][v], due, steps - 1, vain)) {
                    return true;
                }
                way.remove(way.size() - 1);
            }
        }
        return false;
    }

    int core() {
        for (int many = 0; many <= 12; many++) {
            for (int set = 0; set <= all(); set++) {
                for (int[] diff : world.diffs) {
                    if (Integer.bitCount(set) == many && world.clash() >= 0 && by(set, diff[1], diff[2])) {
                        return set;
                    }
                }
            }
        }
        return -2;
    }

    private World with(int t, int u) {
        List<int[]> more = new ArrayList<>(events);
        more.add(new int[] {SAME, t, u});
        return new World(more);
    }

    int would(int t, int u, int what) {
        if (!isTerm(t) || !isTerm(u) || !in(what, 3)) {
            return no(1);
        }
        World then = with(t, u);
        return ok(what == 0 ? then.groups() : what == 1 ? then.clash() : then.joins.size() - world.joins.size());
    }

    int next(int t, int u, int i, int what) {
        if (!isTerm(t) || !isTerm(u) || i < 0 || !in(what, 3)) {
            return no(1);
        }
        List<int[]> joins = with(t, u).joins;
        int at = world.joins.size();
        if (i >= joins.size() - at) {
            return ok(-2);
        }
        int[] join = joins.get(at + i);
        return ok(what < 2 ? join[what] : join[2] == sames() ? 1 : 0);
    }

    int without(int k, int what) {
        if (!in(k, sames()) || !in(what, 2)) {
            return no(1);
        }
        List<int[]> left = new ArrayList<>(world.terms);
        for (int s = 0; s < sames(); s++) {
            if (s != k) {
                left.add(world.sames.get(s));
            }
        }
        left.addAll(world.diffs);
        World then = new World(left);
        return ok(what == 0 ? then.groups() : then.clash());
    }

    int free() {
        int count = 0;
        for (int i = 0; i < world.terms.size(); i++) {
            for (int j = i + 1; j < world.terms.size(); j++) {
                count += !world.one(i, j) && with(i, j).clash() == -2 ? 1 : 0;
            }
        }
        return count;
    }

    int join(int t, int u) {
        if (!isTerm(t) || !isTerm(u)) {
            return no(1);
        }
        if (sames() == 12) {
            return no(3);
        }
        events.add(new int[] {SAME, t, u});
        changed();
        return ok(world.groups());
    }

    int part(int t, int u) {
        if (!isTerm(t) || !isTerm(u)) {
            return no(1);
        }
        if (world.diffs.size() == 8) {
            return no(3);
        }
        events.add(new int[] {DIFF, t, u});
        changed();
        return ok(world.one(t, u) ? 1 : 0);
    }

    int make(int f, int a, int b, int c) {
        if (!in(f, takes.size())) {
            return no(1);
        }
        int[] parts = {a, b, c};
        int[] event = new int[2 + takes.get(f)];
        event[0] = TERM;
        event[1] = f;
        for (int k = 0; k < takes.get(f); k++) {
            if (!isTerm(parts[k])) {
                return no(1);
            }
            event[2 + k] = parts[k];
        }
        if (world.terms.size() == 24) {
            return no(3);
        }
        events.add(event);
        changed();
        return ok(world.terms.size() - 1);
    }

    boolean undo() {
        if (events.size() == textEvents) {
            return false;
        }
        events.remove(events.size() - 1);
        changed();
        return true;
    }
}
