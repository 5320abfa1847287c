import java.util.function.Supplier;

/** Boundary cases of part III of the document, of promises 29 to 36 and 39, and of the object's 512 calls. */
final class ActBoundaries {
    private static final int LOW = Integer.MIN_VALUE;
    private static final int TOP = Integer.MAX_VALUE;

    /** Constants p q r s of their own FUNCTIONS 0 to 3; g takes 1 (FUNCTION 4), h takes 2 (FUNCTION 5). */
    private static final String LEAVES = "fun a 0;fun b 0;fun c 0;fun d 0;fun g 1;fun h 2;"
            + "term p=a;term q=b;term r=c;term s=d";

    private final Book book;
    private final Due due;

    ActBoundaries(Book book, Due due) {
        this.book = book;
        this.due = due;
    }

    void all() {
        head();
        would();
        next();
        without();
        free();
        onPaper();
        join();
        part();
        make();
        undo();
        trouble();
    }

    private void told(String call, long got, long want) {
        due.is(call, got, want);
    }

    private void refused(ReasonCloser x, String call, int got, int trouble) {
        due.refused(x, call, got, trouble);
    }

    private void head() {
        book.test("constants", "`NONE = -1`: There is none; refused.", () -> told("NONE", ReasonCloser.NONE, -1));
        book.test("head", "An object is used for at most 512 calls after it has been made", () -> {
            ReasonCloser x = Due.object(LEAVES + ";same p q");
            // five times feed(), then text()
            for (int call = 7; call < 511; call++) {
                told("call " + call, call % 3 == 0 ? x.join(0, 1) : x.equal(0, 1), call % 3 != 0 ? 1 : call < 42 ? 3 : -1);
            }
            told("call 511", x.reasons(0, 1), 1);
            told("call 512", x.about(2), 12);
        });
    }

    // ---- on paper

    private void would() {
        book.test("29", "How many GROUPS there would be (what 0), the first DIFF that would CLASH (1; -2: none), JOINS there would be more "
                + "(2), were a SAME of two TERMS there, too (also a 13th).", () -> {
            ReasonCloser x = States.tower();
            would(x, 0, 1, 1, -2, 23);
            would(x, 1, 2, 2, -2, 22);
            would(x, 23, 22, 23, -2, 1);
            would(x, 23, 23, 24, -2, 0);
            for (int k = 0; k < 7; k++) {
                x.part(0, 1);
            }
            would(x, 23, 22, 23, -2, 1);
            x.part(22, 23);
            would(x, 22, 23, 23, 7, 1);
            would(x, 21, 22, 22, 7, 2);
            would(x, 0, 1, 1, 0, 23);
            would(x, 5, 5, 24, -2, 0);
            x = Due.object(LEAVES + ";same p q;diff r s;diff q p");
            would(x, 0, 1, 3, 1, 0);
            would(x, 3, 2, 2, 0, 1);
            would(x, 2, 2, 3, 1, 0);
            x = States.chain();
            would(x, 16, 17, 11, -2, 1);
            would(x, 4, 16, 12, -2, 0);
            told("no 13th came", x.about(2), 12);
        });
    }

    private void would(ReasonCloser x, int t, int u, int groups, int clash, int joins) {
        told("would(" + t + ", " + u + ", 0)", x.would(t, u, 0), groups);
        told("would(" + t + ", " + u + ", 1)", x.would(t, u, 1), clash);
        told("would(" + t + ", " + u + ", 2)", x.would(t, u, 2), joins);
    }

    private void next() {
        book.test("30", "Of the i-th JOIN that there would be, were a SAME of two TERMS to come now (also a 13th), the first (what 0), the "
                + "second TERM (1), 2 1 if its cause is that SAME, 0; -2 there are not so many.", () -> {
            ReasonCloser x = States.tower();
            next(x, 1, 0, 0, 1, 0, 1);
            for (int i = 1; i < 23; i++) {
                next(x, 1, 0, i, 1, i + 1, 0);
            }
            for (int i : new int[] {23, 24, 25, 1000, TOP}) {
                next(x, 1, 0, i, -2, -2, -2);
            }
            next(x, 22, 23, 0, 22, 23, 1);
            next(x, 22, 23, 1, -2, -2, -2);
            next(x, 23, 23, 0, -2, -2, -2);
            next(x, 23, 23, TOP, -2, -2, -2);
            x = States.chain();
            next(x, 16, 4, 0, -2, -2, -2);
            next(x, 17, 16, 0, 17, 16, 1);
            next(x, 17, 16, 1, -2, -2, -2);
            told("no 13th came", x.about(2), 12);
            // of two TERMS that share PARTS with others: the least i, then the least j
            x = Due.object(LEAVES + ";term x=h(p,p);term y=g(q);term z=h(p,q);term w=g(p);term v=h(q,q)");
            next(x, 1, 0, 1, 4, 6, 0);
            next(x, 1, 0, 2, 4, 8, 0);
            next(x, 1, 0, 3, 5, 7, 0);
            next(x, 1, 0, 4, -2, -2, -2);
        });
    }

    private void next(ReasonCloser x, int t, int u, int i, int first, int second, int bySame) {
        told("next(" + t + ", " + u + ", " + i + ", 0)", x.next(t, u, i, 0), first);
        told("next(" + t + ", " + u + ", " + i + ", 1)", x.next(t, u, i, 1), second);
        told("next(" + t + ", " + u + ", " + i + ", 2)", x.next(t, u, i, 2), bySame);
    }

    private void without() {
        book.test("31", "How many GROUPS there would be BY all SAMES but one (what 0), the first DIFF that would CLASH then (1; -2: none).",
                () -> {
                    ReasonCloser x = States.chain();
                    x.part(4, 16);
                    x.part(5, 15);
                    for (int k = 0; k < 12; k++) {
                        told("GROUPS without " + k, x.without(k, 0), 13);
                        told("would CLASH without " + k, x.without(k, 1), k == 0 || k == 11 ? 1 : -2);
                    }
                    x = States.tower();
                    x.join(0, 1);
                    for (int k = 0; k < 8; k++) {
                        x.part(k == 7 ? 9 : k, k == 7 ? 9 : k + 1);
                    }
                    told("GROUPS without the only SAME", x.without(0, 0), 24);
                    told("would CLASH without it, the eighth", x.without(0, 1), 7);
                    x.join(0, 1);
                    told("GROUPS without one of two", x.without(1, 0), 1);
                    told("would CLASH without it", x.without(0, 1), 0);
                });
    }

    private void free() {
        book.test("32", "How many pairs of TERMS i below j that aren't one could be made one by a SAME without any DIFF that CLASHES then.",
                () -> {
                    told("no TERM", States.bare().free(), 0);
                    ReasonCloser x = States.bare();
                    x.make(0, 0, 0, 0);
                    told("one TERM", x.free(), 0);
                    x.make(0, 0, 0, 0);
                    told("two that are one", x.free(), 0);
                    x = States.lone();
                    told("all pairs of 24", x.free(), 276);
                    x.part(23, 20);
                    told("but these two, and 0 and 3, of which they are made", x.free(), 274);
                    x.part(20, 23);
                    told("but the same ones", x.free(), 274);
                    x.part(4, 5);
                    told("but these two, and 0 and 1, of which they are made", x.free(), 272);
                    x.part(9, 9);
                    told("none, if a DIFF CLASHES for good", x.free(), 0);
                    x.undo();
                    x.join(22, 20);
                    told("but 23 and 22, and 2 and 3, and the two that are one", x.free(), 269);
                    x = States.tower();
                    x.join(0, 1);
                    told("all are one", x.free(), 0);
                });
    }

    private void onPaper() {
        book.test("III", "ON PAPER nothing changes", () -> {
            for (Supplier<ReasonCloser> state : java.util.List.<Supplier<ReasonCloser>>of(States::mixed, States::tower)) {
                new Beside(due, state).same("on paper", () -> {
                    ReasonCloser x = state.get();
                    for (int k = 0; k < 3; k++) {
                        x.would(k, k + 1, k);
                        x.next(k, k + 2, k, k);
                        x.without(0, k % 2);
                        x.free();
                    }
                    return x;
                }, state, true);
            }
        });
    }

    // ---- acts

    private void join() {
        book.test("33", "A SAME more: GROUPS then.", () -> {
            ReasonCloser x = States.lone();
            for (int k = 0; k < 12; k++) {
                told("SAME " + k, x.join(23 - k, 22 - k), 23 - k);
                told("SAMES", x.about(2), k + 1);
            }
            refused(x, "a 13th", x.join(0, 1), 3);
            refused(x, "a 13th of TERMS that are one", x.join(23, 22), 3);
            told("SAMES", x.about(2), 12);
            told("GROUPS", x.about(4), 12);
            told("undo()", x.undo() ? 1 : 0, 1);
            told("a twelfth again", x.join(11, 11), 13);
            refused(x, "a 13th again", x.join(0, 1), 3);
            x = States.tower();
            told("of one and itself", x.join(23, 23), 24);
            told("SAMES then", x.about(2), 1);
            told("all one", x.join(0, 1), 1);
            told("behind that", x.join(0, 23), 1);
        });
        book.test("I", "up to 12)", () -> {
            ReasonCloser x = Due.object(LEAVES + ";same p q".repeat(11));
            told("a twelfth by join()", x.join(2, 3), 2);
            refused(x, "a 13th", x.join(0, 2), 3);
        });
    }

    private void part() {
        book.test("34", "A DIFF more: 1 if it CLASHES, 0.", () -> {
            ReasonCloser x = States.chain();
            int[] clash = {1, 0, 1, 0, 0, 1, 0, 1};
            int[][] two = {{4, 16}, {4, 17}, {23, 23}, {0, 23}, {23, 0}, {10, 9}, {3, 4}, {16, 16}};
            for (int k = 0; k < 8; k++) {
                told("DIFF " + k, x.part(two[k][0], two[k][1]), clash[k]);
                told("DIFFS", x.about(3), k + 1);
            }
            refused(x, "a ninth", x.part(0, 1), 3);
            refused(x, "a ninth that is there", x.part(0, 23), 3);
            told("DIFFS", x.about(3), 8);
            told("undo()", x.undo() ? 1 : 0, 1);
            told("an eighth again", x.part(23, 22), 0);
            refused(x, "a ninth again", x.part(23, 22), 3);
        });
        book.test("I", "two TERMS are to be apart; up to 8)", () -> {
            ReasonCloser x = Due.object(LEAVES + ";diff p q".repeat(7));
            told("an eighth by part()", x.part(2, 3), 0);
            refused(x, "a ninth", x.part(0, 2), 3);
        });
    }

    private void make() {
        book.test("35", "A TERM more (without a NAME), of a FUNCTION and PARTS a, b, c (those that it doesn't take aren't looked at): its number.",
                () -> {
                    ReasonCloser x = Due.object("fun a 0;fun g 1;fun h 2;fun k 3");
                    told("the first TERM", x.make(0, LOW, TOP, -1), 0);
                    told("of one PART", x.make(1, 0, LOW, TOP), 1);
                    told("of two PARTS", x.make(2, 1, 0, LOW), 2);
                    told("of three PARTS", x.make(3, 2, 1, 0), 3);
                    refused(x, "its own PART", x.make(1, 4, 0, 0), 1);
                    refused(x, "its own second PART", x.make(2, 0, 4, 0), 1);
                    refused(x, "its own third PART", x.make(3, 0, 0, 4), 1);
                    refused(x, "a FUNCTION beyond", x.make(4, 0, 0, 0), 1);
                    for (int t = 4; t < 24; t++) {
                        told("TERM " + t, x.make(3, t - 1, t - 1, t - 1), t);
                    }
                    refused(x, "a 25th", x.make(0, 0, 0, 0), 3);
                    refused(x, "a 25th of three PARTS", x.make(3, 23, 23, 23), 3);
                    refused(x, "a 25th of itself", x.make(3, 24, 0, 0), 1);
                    told("undo()", x.undo() ? 1 : 0, 1);
                    told("the last again", x.make(0, -5, -5, -5), 23);
                    refused(x, "a 25th again", x.make(0, -5, -5, -5), 3);
                });
        book.test("I", "up to 24)", () -> {
            ReasonCloser x = Due.object("fun o 0" + "abcdefghijklmnpqrstuvwx".replaceAll(".", ";term $0=o"));
            told("TERMS", x.about(1), 23);
            told("a 24th by make()", x.make(0, 0, 0, 0), 23);
            refused(x, "a 25th", x.make(0, 0, 0, 0), 3);
        });
    }

    // ---- undo()

    private void undo() {
        book.test("36", "false, and nothing happens, if there is none", () -> {
            Supplier<ReasonCloser> text = () -> Due.object(LEAVES + ";same p q;diff p q");
            Supplier<ReasonCloser> allUndone = () -> {
                ReasonCloser x = text.get();
                x.join(2, 3);
                x.make(4, 0, 0, 0);
                x.part(4, 2);
                told("the third", x.undo() ? 1 : 0, 1);
                told("the second", x.undo() ? 1 : 0, 1);
                told("the first", x.undo() ? 1 : 0, 1);
                return x;
            };
            for (Supplier<ReasonCloser> state : java.util.List.of(States::empty, States::bare, text, allUndone)) {
                told("undo()", state.get().undo() ? 1 : 0, 0);
                new Beside(due, state).same("undo()", () -> {
                    ReasonCloser x = state.get();
                    x.undo();
                    return x;
                }, state, true);
            }
            new Beside(due, text).same("all undone", allUndone, text, true);
        });
        book.test("36", "The latest act is undone: true", () -> {
            ReasonCloser x = Due.object("fun a 0;fun g 3");
            for (int t = 0; t < 24; t++) {
                x.make(t == 0 ? 0 : 1, t - 1, t - 1, t - 1);
            }
            for (int k = 0; k < 12; k++) {
                x.join(0, k % 2);
            }
            for (int k = 0; k < 8; k++) {
                x.part(0, k);
            }
            for (int acts = 44; acts > 0; acts--) {
                told("acts", x.about(5), acts);
                told("DIFFS", x.about(3), Math.max(0, acts - 36));
                told("SAMES", x.about(2), Math.max(0, Math.min(12, acts - 24)));
                told("TERMS", x.about(1), Math.min(24, acts));
                told("GROUPS", x.about(4), acts >= 26 ? 1 : Math.min(24, acts));
                told("undo()", x.undo() ? 1 : 0, 1);
            }
            told("no more", x.undo() ? 1 : 0, 0);
            told("no acts", x.about(5), 0);
            told("no TERMS", x.about(1), 0);
        });
        book.test("III", "undone the latest first", () -> {
            Supplier<ReasonCloser> mixed = States::mixed;
            Beside beside = new Beside(due, mixed);
            Beside.Ask[] acts = {x -> x.join(4, 0), x -> x.part(4, 0), x -> x.make(3, 5, 0, 0), x -> x.make(0, 0, 0, 0),
                x -> x.join(2, 4), x -> x.part(3, 3)};
            for (int k = 0; k < acts.length * acts.length; k++) {
                Beside.Ask first = acts[k / acts.length];
                Beside.Ask second = acts[k % acts.length];
                beside.same("acts " + k / acts.length + ", " + k % acts.length + " undone", () -> {
                    ReasonCloser x = mixed.get();
                    told("first act", first.of(x) == -1 ? 1 : 0, 0);
                    x.cost(0, 0);
                    told("second act", second.of(x) == -1 ? 1 : 0, 0);
                    x.cost(0, 0);
                    told("undo()", x.undo() ? 1 : 0, 1);
                    told("acts", x.about(5), 5);
                    x.cost(0, 0);
                    told("undo()", x.undo() ? 1 : 0, 1);
                    return x;
                }, mixed, true);
            }
        });
        book.test("II", "IN ORDER, as LINES and acts come one behind another", () -> {
            // the same facts as LINES, as acts, and with COSTS asked for in between
            Supplier<ReasonCloser> lines = () -> Due.object(LEAVES + ";term t=g(p);same p q;term u=g(q);term v=h(t,s);diff u p;"
                    + "same s u;same r r;term w=h(u,t)");
            new Beside(due, lines).sameFacts("LINES and acts", lines, () -> {
                ReasonCloser x = Due.object(LEAVES);
                Beside.Ask[] acts = {y -> y.make(4, 0, 0, 0), y -> y.join(0, 1), y -> y.make(4, 1, 0, 0), y -> y.make(5, 4, 3, 0),
                    y -> y.part(5, 0), y -> y.join(3, 5), y -> y.join(2, 2), y -> y.make(5, 5, 4, 0)};
                for (Beside.Ask act : acts) {
                    act.of(x);
                    x.cost(0, x.about(1) - 1);
                    x.way(0, 1, 1);
                }
                return x;
            });
        });
        book.test("III", "those of a TEXT can't be undone", () -> {
            ReasonCloser x = Due.object(LEAVES + ";same p q;diff p q");
            told("acts", x.about(5), 0);
            told("undo()", x.undo() ? 1 : 0, 0);
            told("TERMS", x.about(1), 4);
            told("SAMES", x.about(2), 1);
            told("DIFFS", x.about(3), 1);
            x = States.mixed();
            told("acts", x.about(5), 4);
            Supplier<ReasonCloser> torn = () -> {
                ReasonCloser y = States.mixed();
                y.text(0);
                return y;
            };
            told("acts behind a FAULT", torn.get().about(5), 4);
            told("undone behind a FAULT", torn.get().undo() ? 1 : 0, 1);
        });
    }

    // ---- promise 39

    private void trouble() {
        book.test("39", "TROUBLE.", () -> {
            ReasonCloser x = States.empty();
            told("ahead of any", x.trouble(), 0);
            told("of itself", x.trouble(), 0);
            x = States.chain();
            x.make(0, 0, 0, 0);
            told("3", x.trouble(), 3);
            x.join(0, 1);
            told("3 again", x.trouble(), 3);
            x.undo();
            told("undo() leaves it", x.trouble(), 3);
            x.join(0, 1);
            told("0", x.trouble(), 0);
        });
        book.test("III", "Of several the one that the call tells first.", () -> {
            ReasonCloser x = States.chain();
            refused(x, "no TERM, no set", x.proves(4096, 24, 0), 1);
            refused(x, "no i, not one", x.way(0, 1, -1), 1);
            refused(x, "no TERM, no i", x.way(0, 24, -1), 1);
            refused(x, "no TERM, too many SAMES", x.join(0, 24), 1);
            refused(x, "no FUNCTION, too many TERMS", x.make(6, 0, 0, 0), 1);
            refused(x, "no PART, too many TERMS", x.make(4, 24, 0, 0), 1);
            for (int k = 0; k < 8; k++) {
                x.part(0, 1);
            }
            refused(x, "no TERM, too many DIFFS", x.part(24, 0), 1);
            x = States.bare();
            refused(x, "n below 0, THE TAPE empty", x.text(-1), 2);
        });
    }
}
