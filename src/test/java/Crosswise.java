import java.util.List;
import java.util.function.Supplier;

/** What the calls tell of the same thing must fit together, in states of every kind: the document's first sentence, and some of II, III. */
final class Crosswise {
    private static final int TOP_SUM = 1000000000;

    private final Book book;
    private final Due due;
    private final List<Supplier<ReasonCloser>> states = List.of(States::bare, States::mixed, States::lone, States::chain, States::full,
            States::longest, Crosswise::steep, Crosswise::ring, Crosswise::webbed);

    Crosswise(Book book, Due due) {
        this.book = book;
        this.due = due;
    }

    void all() {
        becomingOne();
        why();
        apart();
        onPaper();
        acts();
    }

    private void told(String call, long got, long want) {
        due.is(call, got, want);
    }

    /** A tower whose COSTS go over the top, with DIFFS. */
    private static ReasonCloser steep() {
        ReasonCloser x = States.tower();
        x.part(0, 23);
        x.part(5, 5);
        x.join(1, 0);
        return x;
    }

    /** A ring of SAMES, pairs made of its TERMS, and SAMES of these pairs, too. */
    private static ReasonCloser ring() {
        return Due.object("fun a 0;fun b 0;fun c 0;fun d 0;fun e 0;fun g 1;fun h 2;term p=a;term q=b;term r=c;term s=d;term t=e;"
                + "same p q;term u=g(p);term v=g(q);term w=g(r);same r q;same s r;diff u w;term x=h(u,p);term y=h(w,s);same p s;"
                + "term z=h(v,t);same u t;diff x y;diff s t");
    }

    /** Twelve SAMES of eight GROUPS, ahead of the TERMS and behind them, with acts that came and went. */
    private static ReasonCloser webbed() {
        ReasonCloser x = Due.object("fun a 0;fun b 0;fun c 0;fun g 1;fun h 2;term p=a;term q=b;term r=c;same r p;term s=g(p);"
                + "term t=g(r);term u=h(s,q);term v=h(t,r);same t q;diff p q;term w=g(u);term x=g(v);term y=a;same w y;diff w v");
        for (int k = 0; k < 9; k++) {
            x.join(k * k % 10, (3 * k + 1) % 10);
            x.make(3 + k % 2, k, 9 - k, 0);
            x.undo();
        }
        for (int k = 0; k < 6; k++) {
            x.make(3 + k % 2, k, 9 + k, 0);
        }
        return x;
    }

    private interface Pair {
        void of(ReasonCloser x, int t, int u);
    }

    /** For all pairs of TERMS in each state, each with an object of its own, as an object is good for 512 calls alone. */
    private void eachPair(Pair asked) {
        for (Supplier<ReasonCloser> state : states) {
            int terms = state.get().about(1);
            for (int t = 0; t < terms; t++) {
                for (int u = 0; u < terms; u++) {
                    asked.of(state.get(), t, u);
                }
            }
        }
    }

    /** What is told of a state's TERMS and SAMES, and all COSTS. */
    private static final class Told {
        final int terms;
        final int[][] sames;
        final int[][] parts;
        final int[] functions;
        final int[] leads;
        final int[][] costs;

        Told(Supplier<ReasonCloser> state) {
            ReasonCloser x = state.get();
            terms = x.about(1);
            sames = new int[x.about(2)][];
            for (int k = 0; k < sames.length; k++) {
                sames[k] = new int[] {x.sameOf(k, 0), x.sameOf(k, 1)};
            }
            parts = new int[terms][];
            functions = new int[terms];
            leads = new int[terms];
            costs = new int[terms][terms];
            for (int t = 0; t < terms; t++) {
                functions[t] = x.term(t, 0);
                leads[t] = x.term(t, 1);
                parts[t] = new int[x.function(functions[t], 0)];
                for (int k = 0; k < parts[t].length; k++) {
                    parts[t][k] = x.partOf(t, k);
                }
                ReasonCloser y = state.get();
                for (int u = 0; u < terms; u++) {
                    costs[t][u] = y.cost(t, u);
                }
            }
        }

        boolean alike(int t, int u) {
            boolean so = functions[t] == functions[u];
            for (int k = 0; so && k < parts[t].length; k++) {
                so = leads[parts[t][k]] == leads[parts[u][k]];
            }
            return so;
        }

        /** What it costs from one TERM to one beside it; far too much if they aren't side by side. */
        long step(int t, int u) {
            long least = Integer.MAX_VALUE;
            for (int[] same : sames) {
                if (same[0] == t && same[1] == u || same[0] == u && same[1] == t) {
                    least = 1;
                }
            }
            long sum = 0;
            for (int k = 0; alike(t, u) && k < parts[t].length; k++) {
                sum += costs[parts[t][k]][parts[u][k]];
            }
            return alike(t, u) ? Math.min(least, Math.min(TOP_SUM, sum)) : least;
        }
    }

    // ---- by facts, and by what they are made of

    private void becomingOne() {
        book.test("head", "Terms that become one by facts, and by what they are made of", () -> {
            for (Supplier<ReasonCloser> state : states) {
                Told told = new Told(state);
                for (int[] same : told.sames) {
                    told("the two of a SAME", state.get().equal(same[0], same[1]), 1);
                }
                for (int k = 0; k < told.terms * told.terms; k++) {
                    int t = k / told.terms;
                    int u = k % told.terms;
                    told(t + " and " + u, told.leads[t] == told.leads[u] ? 1 : 0, state.get().equal(t, u));
                    told(t + " and " + u + " are made alike, but aren't one", told.alike(t, u) && told.leads[t] != told.leads[u] ? 1 : 0, 0);
                }
            }
        });
        book.test("II", "of two TERMS i below j that aren't one, have the same FUNCTION, and PARTS that are one each with each", () -> {
            for (Supplier<ReasonCloser> state : states) {
                ReasonCloser x = state.get();
                Told told = new Told(state);
                told("JOINS are as many as TERMS that aren't LEADS", x.about(6), x.about(1) - x.about(4));
                for (int k = 0; k < x.about(6); k++) {
                    int i = x.joinOf(k, 0);
                    int j = x.joinOf(k, 1);
                    int same = x.joinOf(k, 2);
                    told("JOIN " + k + " of two that are one", x.equal(i, j), 1);
                    if (same == -2) {
                        told("JOIN " + k + " of i below j", i < j ? 1 : 0, 1);
                        told("JOIN " + k + " of TERMS made alike", told.alike(i, j) ? 1 : 0, 1);
                    } else {
                        told("JOIN " + k + ", the first of its SAME", told.sames[same][0], i);
                        told("JOIN " + k + ", the second of its SAME", told.sames[same][1], j);
                    }
                }
            }
        });
    }

    // ---- why two are one

    private void why() {
        book.test("head", "why two are one: out of a forest that is turned round at each join, without what is not needed, by the fewest "
                + "facts, by the least cost, level by level", () -> {
            ReasonCloser x = Due.object("fun a 0;fun b 0;fun c 0;fun g 1;term p=a;term q=b;term r=c;term s=g(p);term t=g(q);term u=g(r);"
                    + "same p q;same q r;same u s;same s u;same u t");
            told("out of a forest", x.reasons(4, 5), 1 + 2);
            told("without what is not needed", x.pruned(4, 5), 2);
            told("by the fewest facts", x.fewest(4, 5), 2);
            told("by the least cost", x.cost(4, 5), 1);
            told("level by level", x.level(4, 5), 0);
            told("out of a forest", x.reasons(3, 5), 1 + 2);
            told("without what is not needed", x.pruned(3, 5), 1 + 2);
            told("by the fewest facts", x.fewest(3, 5), 4);
            told("by the least cost", x.cost(3, 5), 1);
            told("level by level", x.level(3, 4), 0);
        });
        for (String words : List.of("REASONS for two TERMS that are one", "PRUNED for two that are one", "LEVEL of two that are one")) {
            book.test("II", words, () -> eachPair(this::sets));
        }
        book.test("II", "COST: the least sum along a way from one to the other,", () -> states.forEach(this::sumsOnWays));
    }

    /** Each set that is told is one BY which the two are one; what is needed is in each of them. */
    private void sets(ReasonCloser x, int t, int u) {
        String two = t + " and " + u;
        int all = (1 << x.about(2)) - 1;
        if (x.equal(t, u) == 0) {
            Beside.OfTwo[] calls = {ReasonCloser::reasons, ReasonCloser::pruned, ReasonCloser::fewest, ReasonCloser::since,
                ReasonCloser::needed, ReasonCloser::many, ReasonCloser::level, ReasonCloser::cost};
            for (Beside.OfTwo call : calls) {
                due.refused(x, two + " aren't one", call.of(x, t, u), 5);
            }
            due.refused(x, two + " have no way", x.way(t, u, 0), 5);
            told(two + " aren't one BY all SAMES", x.proves(all, t, u), 0);
            return;
        }
        int needed = x.needed(t, u);
        int[] sets = {all, x.reasons(t, u), x.pruned(t, u), x.fewest(t, u), (1 << x.since(t, u)) - 1};
        for (int k = 0; k < sets.length; k++) {
            told(two + " are one BY the set " + k, x.proves(sets[k], t, u), 1);
            told(two + " need what is in the set " + k, needed & ~sets[k], 0);
        }
        told(two + " the other way round, PRUNED", x.pruned(u, t), sets[2]);
        told(two + " the other way round, FEWEST", x.fewest(u, t), sets[3]);
        told(two + " the other way round, REASONS", x.reasons(u, t), sets[1]);
        for (int k = 0; k < 12; k++) {
            if ((sets[2] >> k & 1) != 0) {
                told(two + " aren't one BY PRUNED without " + k, x.proves(sets[2] & ~(1 << k), t, u), 0);
            }
            if ((sets[3] >> k & 1) != 0) {
                told(two + " aren't one BY FEWEST without " + k, x.proves(sets[3] & ~(1 << k), t, u), 0);
            }
        }
        told(two + ": FEWEST are no more than PRUNED", Math.max(0, Integer.bitCount(sets[3]) - Integer.bitCount(sets[2])), 0);
        told(two + ": just one set, if what is needed is enough", x.many(t, u) == 1 ? 1 : 0, x.proves(needed, t, u));
        if (sets[4] > 0) {
            told(two + " aren't one BY one SAME less", x.proves(sets[4] >> 1, t, u), 0);
        }
    }

    private void sumsOnWays(Supplier<ReasonCloser> state) {
        Told told = new Told(state);
        for (int t = 0; t < told.terms; t++) {
            for (int u = 0; u < told.terms; u++) {
                if (told.leads[t] == told.leads[u]) {
                    sumOnWay(state.get(), told, t, u);
                    told("COST the other way round", told.costs[u][t], told.costs[t][u]);
                }
            }
        }
    }

    private void sumOnWay(ReasonCloser x, Told told, int t, int u) {
        String two = t + " to " + u;
        long sum = 0;
        int at = x.way(t, u, 0);
        told("the way from " + two + " begins", at, t);
        for (int i = 1; i < 24 && x.way(t, u, i) != -2; i++) {
            int onward = x.way(t, u, i);
            sum += told.step(at, onward);
            at = onward;
        }
        told("the way from " + two + " ends", at, u);
        told("the sum along it", Math.min(TOP_SUM, sum), told.costs[t][u]);
    }

    // ---- apart

    private void apart() {
        book.test("head", "terms that must stay apart, told at once when they don't", () -> eachPair((x, t, u) -> {
            int before = x.about(7);
            int would = x.would(t, u, 1);
            boolean parted = x.apart(t, u) == 1;
            if (x.about(2) < 12) {
                x.join(t, u);
                told("the first that CLASHES, once " + t + " and " + u + " are one", x.about(7), would);
                told("there is one, if they were APART", parted && x.about(7) == -2 ? 0 : 1, 1);
                x.undo();
                told("the first that CLASHED ahead", x.about(7), before);
            }
            if (x.about(3) < 8) {
                told("a DIFF of " + t + " and " + u + " CLASHES", x.part(t, u), x.equal(t, u));
                told("they are APART then", x.apart(u, t), 1);
                told("the first that CLASHES", x.about(7), before >= 0 || x.equal(t, u) == 0 ? before : x.about(3) - 1);
            }
        }));
    }

    // ---- on paper, acts

    private void onPaper() {
        book.test("head", "what would be, were a fact more there, or missing", () -> {
            eachPair(this::oneMore);
            oneMissing();
        });
    }

    /** What is told on paper is what is there once the SAME has come. */
    private void oneMore(ReasonCloser x, int t, int u) {
        if (x.about(2) == 12) {
            return;
        }
        int joins = x.about(6);
        int[] would = {x.would(t, u, 0), x.would(t, u, 1), x.would(t, u, 2)};
        int[][] next = new int[26][3];
        for (int i = 0; i < 26; i++) {
            for (int what = 0; what < 3; what++) {
                next[i][what] = x.next(t, u, i, what);
            }
        }
        told("GROUPS with a SAME of " + t + " and " + u, x.join(t, u), would[0]);
        told("the first that CLASHES then", x.about(7), would[1]);
        told("JOINS more", x.about(6) - joins, would[2]);
        for (int i = 0; i < 26; i++) {
            boolean there = joins + i < x.about(6);
            told("JOIN " + i + ", its first", there ? x.joinOf(joins + i, 0) : -2, next[i][0]);
            told("JOIN " + i + ", its second", there ? x.joinOf(joins + i, 1) : -2, next[i][1]);
            told("JOIN " + i + ", by the SAME", !there ? -2 : x.joinOf(joins + i, 2) >= 0 ? 1 : 0, next[i][2]);
        }
    }

    private void oneMissing() {
        String ahead = "fun a 0;fun b 0;fun c 0;fun g 1;fun h 2;term p=a;term q=b;term r=c;term s=g(p);term t=g(r);term u=h(s,q);"
                + "term v=h(t,r);diff u v;diff p r;diff s q";
        String[] sames = {";same p r", ";same t q", ";same q r", ";same v s"};
        for (int missing = 0; missing < sames.length; missing++) {
            StringBuilder all = new StringBuilder(ahead);
            StringBuilder others = new StringBuilder(ahead);
            for (int k = 0; k < sames.length; k++) {
                all.append(sames[k]);
                others.append(k == missing ? "" : sames[k]);
            }
            ReasonCloser x = Due.object(all.toString());
            ReasonCloser less = Due.object(others.toString());
            told("GROUPS without SAME " + missing, x.without(missing, 0), less.about(4));
            told("the first that CLASHES without it", x.without(missing, 1), less.about(7));
            told("are its two one BY all others", x.sameOf(missing, 2), less.equal(x.sameOf(missing, 0), x.sameOf(missing, 1)));
        }
    }

    private void acts() {
        book.test("head", "acts undone", () -> {
            for (Supplier<ReasonCloser> state : states) {
                ReasonCloser x = state.get();
                for (int acts = x.about(5); acts > 0; acts--) {
                    int facts = x.about(1) + x.about(2) + x.about(3);
                    told("undo()", x.undo() ? 1 : 0, 1);
                    told("acts", x.about(5), acts - 1);
                    told("a TERM, a SAME or a DIFF less", x.about(1) + x.about(2) + x.about(3), facts - 1);
                }
                told("no more", x.undo() ? 1 : 0, 0);
            }
        });
        book.test("III", "ACTS: join(), part(), make()", () -> {
            Supplier<ReasonCloser> state = Crosswise::ring;
            int acts = state.get().about(5);
            for (Beside.Ask call : TextBoundaries.CALLS_THAT_MAY_BE_REFUSED) {
                ReasonCloser x = state.get();
                int facts = x.about(1) + x.about(2) + x.about(3);
                call.of(x);
                boolean read = x.about(0) == 1;
                int more = x.about(1) + x.about(2) + x.about(3) - facts;
                told("acts are what is more", x.about(5) - acts, read ? 0 : more);
            }
            ReasonCloser x = state.get();
            x.join(0, 1);
            told("join()", x.about(5), acts + 1);
            x.part(0, 1);
            told("part()", x.about(5), acts + 2);
            x.make(0, 0, 0, 0);
            told("make()", x.about(5), acts + 3);
            x.join(0, 99);
            x.part(99, 0);
            x.make(0, 99, 0, 0);
            x.make(99, 0, 0, 0);
            told("those that are refused are none", x.about(5), acts + 4);
        });
    }
}
